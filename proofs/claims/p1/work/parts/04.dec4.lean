theorem dX7_truncate_32 : decode cX7_truncate 32 = .ok (.aload_n 0, 1) := by decide +kernel
theorem dX7_truncate_33 : decode cX7_truncate 33 = .ok (.iload_n 1, 1) := by decide +kernel
theorem dX7_truncate_34 : decode cX7_truncate 34 = .ok (.putfield 85, 3) := by decide +kernel
theorem dX7_truncate_37 : decode cX7_truncate 37 = .ok (.iload_n 1, 1) := by decide +kernel
theorem dX7_truncate_38 : decode cX7_truncate 38 = .ok (.ireturn, 1) := by decide +kernel
theorem dX7_fault_0 : decode cX7_fault 0 = .ok (.aload_n 0, 1) := by decide +kernel
theorem dX7_fault_1 : decode cX7_fault 1 = .ok (.getfield 96, 3) := by decide +kernel
theorem dX7_fault_4 : decode cX7_fault 4 = .ok (.ifCond .ne 18, 3) := by decide +kernel
theorem dX7_fault_7 : decode cX7_fault 7 = .ok (.aload_n 0, 1) := by decide +kernel
theorem dX7_fault_8 : decode cX7_fault 8 = .ok (.iconst 1, 1) := by decide +kernel
theorem dX7_fault_9 : decode cX7_fault 9 = .ok (.putfield 96, 3) := by decide +kernel
theorem dX7_fault_12 : decode cX7_fault 12 = .ok (.aload_n 0, 1) := by decide +kernel
theorem dX7_fault_13 : decode cX7_fault 13 = .ok (.iload_n 1, 1) := by decide +kernel
theorem dX7_fault_14 : decode cX7_fault 14 = .ok (.putfield 100, 3) := by decide +kernel
theorem dX7_fault_17 : decode cX7_fault 17 = .ok (.aload_n 0, 1) := by decide +kernel
theorem dX7_fault_18 : decode cX7_fault 18 = .ok (.iload_n 2, 1) := by decide +kernel
theorem dX7_fault_19 : decode cX7_fault 19 = .ok (.putfield 38, 3) := by decide +kernel
theorem dX7_fault_22 : decode cX7_fault 22 = .ok (.return_, 1) := by decide +kernel
theorem dX7_blanks_0 : decode cX7_blanks 0 = .ok (.aload_n 0, 1) := by decide +kernel
theorem dX7_blanks_1 : decode cX7_blanks 1 = .ok (.getfield 103, 3) := by decide +kernel
theorem dX7_blanks_4 : decode cX7_blanks 4 = .ok (.aload_n 0, 1) := by decide +kernel
theorem dX7_blanks_5 : decode cX7_blanks 5 = .ok (.getfield 85, 3) := by decide +kernel
theorem dX7_blanks_8 : decode cX7_blanks 8 = .ok (.if_icmp .ge 44, 3) := by decide +kernel
theorem dX7_blanks_11 : decode cX7_blanks 11 = .ok (.aload_n 0, 1) := by decide +kernel
theorem dX7_blanks_12 : decode cX7_blanks 12 = .ok (.getfield 35, 3) := by decide +kernel
theorem dX7_blanks_15 : decode cX7_blanks 15 = .ok (.aload_n 0, 1) := by decide +kernel
theorem dX7_blanks_16 : decode cX7_blanks 16 = .ok (.getfield 103, 3) := by decide +kernel
theorem dX7_blanks_19 : decode cX7_blanks 19 = .ok (.iaload, 1) := by decide +kernel
theorem dX7_blanks_20 : decode cX7_blanks 20 = .ok (.bipush 10, 2) := by decide +kernel
theorem dX7_blanks_22 : decode cX7_blanks 22 = .ok (.if_icmp .eq 17, 3) := by decide +kernel
theorem dX7_blanks_25 : decode cX7_blanks 25 = .ok (.aload_n 0, 1) := by decide +kernel
theorem dX7_blanks_26 : decode cX7_blanks 26 = .ok (.getfield 35, 3) := by decide +kernel
theorem dX7_blanks_29 : decode cX7_blanks 29 = .ok (.aload_n 0, 1) := by decide +kernel
theorem dX7_blanks_30 : decode cX7_blanks 30 = .ok (.getfield 103, 3) := by decide +kernel
theorem dX7_blanks_33 : decode cX7_blanks 33 = .ok (.iaload, 1) := by decide +kernel
theorem dX7_blanks_34 : decode cX7_blanks 34 = .ok (.bipush 32, 2) := by decide +kernel
theorem dX7_blanks_36 : decode cX7_blanks 36 = .ok (.if_icmp .ne 16, 3) := by decide +kernel
theorem dX7_blanks_52 : decode cX7_blanks 52 = .ok (.return_, 1) := by decide +kernel
theorem dX7_isLetter_0 : decode cX7_isLetter 0 = .ok (.iload_n 1, 1) := by decide +kernel
theorem dX7_isLetter_1 : decode cX7_isLetter 1 = .ok (.aload_n 0, 1) := by decide +kernel
theorem dX7_isLetter_2 : decode cX7_isLetter 2 = .ok (.getfield 85, 3) := by decide +kernel
theorem dX7_isLetter_5 : decode cX7_isLetter 5 = .ok (.if_icmp .ge 26, 3) := by decide +kernel
theorem dX7_isLetter_8 : decode cX7_isLetter 8 = .ok (.aload_n 0, 1) := by decide +kernel
theorem dX7_isLetter_9 : decode cX7_isLetter 9 = .ok (.getfield 35, 3) := by decide +kernel
theorem dX7_isLetter_12 : decode cX7_isLetter 12 = .ok (.iload_n 1, 1) := by decide +kernel
theorem dX7_isLetter_13 : decode cX7_isLetter 13 = .ok (.iaload, 1) := by decide +kernel
theorem dX7_isLetter_14 : decode cX7_isLetter 14 = .ok (.i2l, 1) := by decide +kernel
theorem dX7_isLetter_15 : decode cX7_isLetter 15 = .ok (.ldc2_w 106, 3) := by decide +kernel
theorem dX7_isLetter_18 : decode cX7_isLetter 18 = .ok (.ldc2_w 108, 3) := by decide +kernel
theorem dX7_isLetter_21 : decode cX7_isLetter 21 = .ok (.invokestatic 92, 3) := by decide +kernel
theorem dX7_isLetter_24 : decode cX7_isLetter 24 = .ok (.ifCond .eq 7, 3) := by decide +kernel
theorem dX7_isLetter_27 : decode cX7_isLetter 27 = .ok (.iconst 1, 1) := by decide +kernel
theorem dX7_isLetter_28 : decode cX7_isLetter 28 = .ok (.goto 4, 3) := by decide +kernel
theorem dX7_isLetter_31 : decode cX7_isLetter 31 = .ok (.iconst 0, 1) := by decide +kernel
theorem dX7_isLetter_32 : decode cX7_isLetter 32 = .ok (.ireturn, 1) := by decide +kernel
theorem dX7_takesWord_0 : decode cX7_takesWord 0 = .ok (.aload_n 0, 1) := by decide +kernel
theorem dX7_takesWord_1 : decode cX7_takesWord 1 = .ok (.invokevirtual 114, 3) := by decide +kernel
theorem dX7_takesWord_4 : decode cX7_takesWord 4 = .ok (.aload_n 0, 1) := by decide +kernel
theorem dX7_takesWord_5 : decode cX7_takesWord 5 = .ok (.aload_n 0, 1) := by decide +kernel
theorem dX7_takesWord_6 : decode cX7_takesWord 6 = .ok (.getfield 103, 3) := by decide +kernel
theorem dX7_takesWord_9 : decode cX7_takesWord 9 = .ok (.putfield 117, 3) := by decide +kernel
theorem dX7_takesWord_12 : decode cX7_takesWord 12 = .ok (.lconst 0, 1) := by decide +kernel
theorem dX7_takesWord_13 : decode cX7_takesWord 13 = .ok (.lstore_n 2, 1) := by decide +kernel
theorem dX7_takesWord_14 : decode cX7_takesWord 14 = .ok (.iconst 0, 1) := by decide +kernel
theorem dX7_takesWord_15 : decode cX7_takesWord 15 = .ok (.istore 4, 2) := by decide +kernel
theorem dX7_takesWord_17 : decode cX7_takesWord 17 = .ok (.aload_n 0, 1) := by decide +kernel
theorem dX7_takesWord_18 : decode cX7_takesWord 18 = .ok (.aload_n 0, 1) := by decide +kernel
theorem dX7_takesWord_19 : decode cX7_takesWord 19 = .ok (.getfield 103, 3) := by decide +kernel
theorem dX7_takesWord_22 : decode cX7_takesWord 22 = .ok (.invokevirtual 120, 3) := by decide +kernel
theorem dX7_takesWord_25 : decode cX7_takesWord 25 = .ok (.ifCond .eq 54, 3) := by decide +kernel
theorem dX7_takesWord_28 : decode cX7_takesWord 28 = .ok (.iload 4, 2) := by decide +kernel
theorem dX7_takesWord_30 : decode cX7_takesWord 30 = .ok (.iload_n 1, 1) := by decide +kernel
theorem dX7_takesWord_31 : decode cX7_takesWord 31 = .ok (.if_icmp .ge 28, 3) := by decide +kernel
theorem dX7_takesWord_34 : decode cX7_takesWord 34 = .ok (.ldc2_w 124, 3) := by decide +kernel
theorem dX7_takesWord_37 : decode cX7_takesWord 37 = .ok (.lload_n 2, 1) := by decide +kernel
theorem dX7_takesWord_38 : decode cX7_takesWord 38 = .ok (.lmul, 1) := by decide +kernel
theorem dX7_takesWord_39 : decode cX7_takesWord 39 = .ok (.aload_n 0, 1) := by decide +kernel
theorem dX7_takesWord_40 : decode cX7_takesWord 40 = .ok (.getfield 35, 3) := by decide +kernel
theorem dX7_takesWord_43 : decode cX7_takesWord 43 = .ok (.aload_n 0, 1) := by decide +kernel
theorem dX7_takesWord_44 : decode cX7_takesWord 44 = .ok (.getfield 103, 3) := by decide +kernel
theorem dX7_takesWord_47 : decode cX7_takesWord 47 = .ok (.iaload, 1) := by decide +kernel
theorem dX7_takesWord_48 : decode cX7_takesWord 48 = .ok (.i2l, 1) := by decide +kernel
theorem dX7_takesWord_49 : decode cX7_takesWord 49 = .ok (.ladd, 1) := by decide +kernel
theorem dX7_takesWord_50 : decode cX7_takesWord 50 = .ok (.ldc2_w 106, 3) := by decide +kernel
theorem dX7_takesWord_53 : decode cX7_takesWord 53 = .ok (.lsub, 1) := by decide +kernel
theorem dX7_takesWord_54 : decode cX7_takesWord 54 = .ok (.lconst 1, 1) := by decide +kernel
theorem dX7_takesWord_55 : decode cX7_takesWord 55 = .ok (.ladd, 1) := by decide +kernel
theorem dX7_takesWord_56 : decode cX7_takesWord 56 = .ok (.goto 6, 3) := by decide +kernel
theorem dX7_takesWord_79 : decode cX7_takesWord 79 = .ok (.lload_n 2, 1) := by decide +kernel
theorem dX7_takesWord_80 : decode cX7_takesWord 80 = .ok (.lreturn, 1) := by decide +kernel
theorem dX7_says_0 : decode cX7_says 0 = .ok (.aload_n 0, 1) := by decide +kernel
theorem dX7_says_1 : decode cX7_says 1 = .ok (.invokevirtual 114, 3) := by decide +kernel
theorem dX7_says_4 : decode cX7_says 4 = .ok (.aload_n 0, 1) := by decide +kernel
theorem dX7_says_5 : decode cX7_says 5 = .ok (.getfield 103, 3) := by decide +kernel
theorem dX7_says_8 : decode cX7_says 8 = .ok (.istore_n 3, 1) := by decide +kernel
theorem dX7_says_9 : decode cX7_says 9 = .ok (.aload_n 0, 1) := by decide +kernel
theorem dX7_says_10 : decode cX7_says 10 = .ok (.bipush 8, 2) := by decide +kernel
theorem dX7_says_12 : decode cX7_says 12 = .ok (.invokevirtual 128, 3) := by decide +kernel
theorem dX7_says_15 : decode cX7_says 15 = .ok (.lload_n 1, 1) := by decide +kernel
theorem dX7_says_16 : decode cX7_says 16 = .ok (.lcmp, 1) := by decide +kernel
theorem dX7_says_17 : decode cX7_says 17 = .ok (.ifCond .ne 7, 3) := by decide +kernel
theorem dX7_says_20 : decode cX7_says 20 = .ok (.iconst 1, 1) := by decide +kernel
theorem dX7_says_21 : decode cX7_says 21 = .ok (.goto 4, 3) := by decide +kernel
theorem dX7_says_24 : decode cX7_says 24 = .ok (.iconst 0, 1) := by decide +kernel
theorem dX7_says_25 : decode cX7_says 25 = .ok (.istore 4, 2) := by decide +kernel
theorem dX7_says_27 : decode cX7_says 27 = .ok (.iload 4, 2) := by decide +kernel
theorem dX7_says_29 : decode cX7_says 29 = .ok (.ifCond .ne 8, 3) := by decide +kernel
theorem dX7_says_32 : decode cX7_says 32 = .ok (.aload_n 0, 1) := by decide +kernel
theorem dX7_says_33 : decode cX7_says 33 = .ok (.iload_n 3, 1) := by decide +kernel
theorem dX7_says_34 : decode cX7_says 34 = .ok (.putfield 103, 3) := by decide +kernel
theorem dX7_says_37 : decode cX7_says 37 = .ok (.iload 4, 2) := by decide +kernel
theorem dX7_says_39 : decode cX7_says 39 = .ok (.ireturn, 1) := by decide +kernel
theorem dX7_semicolon_0 : decode cX7_semicolon 0 = .ok (.aload_n 0, 1) := by decide +kernel
theorem dX7_semicolon_1 : decode cX7_semicolon 1 = .ok (.getfield 96, 3) := by decide +kernel
theorem dX7_semicolon_4 : decode cX7_semicolon 4 = .ok (.ifCond .ne 34, 3) := by decide +kernel
theorem dX7_semicolon_7 : decode cX7_semicolon 7 = .ok (.aload_n 0, 1) := by decide +kernel
theorem dX7_semicolon_8 : decode cX7_semicolon 8 = .ok (.bipush 59, 2) := by decide +kernel
theorem dX7_semicolon_10 : decode cX7_semicolon 10 = .ok (.invokevirtual 132, 3) := by decide +kernel
theorem dX7_semicolon_13 : decode cX7_semicolon 13 = .ok (.ifCond .eq 16, 3) := by decide +kernel
theorem dX7_semicolon_16 : decode cX7_semicolon 16 = .ok (.aload_n 0, 1) := by decide +kernel
theorem dX7_semicolon_17 : decode cX7_semicolon 17 = .ok (.dup, 1) := by decide +kernel
theorem dX7_semicolon_18 : decode cX7_semicolon 18 = .ok (.getfield 103, 3) := by decide +kernel
theorem dX7_semicolon_21 : decode cX7_semicolon 21 = .ok (.iconst 1, 1) := by decide +kernel
theorem dX7_semicolon_22 : decode cX7_semicolon 22 = .ok (.iadd, 1) := by decide +kernel
theorem dX7_semicolon_23 : decode cX7_semicolon 23 = .ok (.putfield 103, 3) := by decide +kernel
theorem dX7_semicolon_26 : decode cX7_semicolon 26 = .ok (.goto 12, 3) := by decide +kernel
theorem dX7_semicolon_38 : decode cX7_semicolon 38 = .ok (.return_, 1) := by decide +kernel
theorem dX7_placeOf_0 : decode cX7_placeOf 0 = .ok (.iconst 0, 1) := by decide +kernel
theorem dX7_placeOf_1 : decode cX7_placeOf 1 = .ok (.istore_n 3, 1) := by decide +kernel
theorem dX7_placeOf_2 : decode cX7_placeOf 2 = .ok (.iload_n 3, 1) := by decide +kernel
theorem dX7_placeOf_3 : decode cX7_placeOf 3 = .ok (.iload_n 2, 1) := by decide +kernel
theorem dX7_placeOf_4 : decode cX7_placeOf 4 = .ok (.if_icmp .ge 18, 3) := by decide +kernel
theorem dX7_placeOf_7 : decode cX7_placeOf 7 = .ok (.aload_n 1, 1) := by decide +kernel
theorem dX7_placeOf_8 : decode cX7_placeOf 8 = .ok (.iload_n 3, 1) := by decide +kernel
theorem dX7_placeOf_9 : decode cX7_placeOf 9 = .ok (.iaload, 1) := by decide +kernel
theorem dX7_placeOf_10 : decode cX7_placeOf 10 = .ok (.iload_n 0, 1) := by decide +kernel
theorem dX7_placeOf_11 : decode cX7_placeOf 11 = .ok (.if_icmp .ne 5, 3) := by decide +kernel
theorem dX7_placeOf_14 : decode cX7_placeOf 14 = .ok (.iload_n 3, 1) := by decide +kernel
theorem dX7_placeOf_15 : decode cX7_placeOf 15 = .ok (.ireturn, 1) := by decide +kernel
theorem dX7_placeOf_16 : decode cX7_placeOf 16 = .ok (.iinc 3 1, 3) := by decide +kernel
theorem dX7_placeOf_19 : decode cX7_placeOf 19 = .ok (.goto (-17), 3) := by decide +kernel
theorem dX7_placeOf_22 : decode cX7_placeOf 22 = .ok (.iconst (-1), 1) := by decide +kernel
theorem dX7_placeOf_23 : decode cX7_placeOf 23 = .ok (.ireturn, 1) := by decide +kernel
theorem dX7_names_0 : decode cX7_names 0 = .ok (.iconst 0, 1) := by decide +kernel
theorem dX7_names_1 : decode cX7_names 1 = .ok (.istore 5, 2) := by decide +kernel
theorem dX7_names_3 : decode cX7_names 3 = .ok (.aload_n 0, 1) := by decide +kernel
theorem dX7_names_4 : decode cX7_names 4 = .ok (.getfield 96, 3) := by decide +kernel
theorem dX7_names_7 : decode cX7_names 7 = .ok (.ifCond .ne 20, 3) := by decide +kernel
theorem dX7_names_10 : decode cX7_names 10 = .ok (.aload_n 0, 1) := by decide +kernel
theorem dX7_names_11 : decode cX7_names 11 = .ok (.lload_n 1, 1) := by decide +kernel
theorem dX7_names_12 : decode cX7_names 12 = .ok (.invokevirtual 157, 3) := by decide +kernel
theorem dX7_names_15 : decode cX7_names 15 = .ok (.ifCond .ne 12, 3) := by decide +kernel
theorem dX7_names_18 : decode cX7_names 18 = .ok (.aload_n 0, 1) := by decide +kernel
theorem dX7_names_19 : decode cX7_names 19 = .ok (.iconst 1, 1) := by decide +kernel
theorem dX7_names_20 : decode cX7_names 20 = .ok (.aload_n 0, 1) := by decide +kernel
theorem dX7_names_21 : decode cX7_names 21 = .ok (.getfield 103, 3) := by decide +kernel
theorem dX7_names_24 : decode cX7_names 24 = .ok (.invokevirtual 136, 3) := by decide +kernel
theorem dX7_names_27 : decode cX7_names 27 = .ok (.aload_n 0, 1) := by decide +kernel
theorem dX7_names_28 : decode cX7_names 28 = .ok (.getfield 96, 3) := by decide +kernel
theorem dX7_names_31 : decode cX7_names 31 = .ok (.ifCond .ne 7, 3) := by decide +kernel
theorem dX7_names_34 : decode cX7_names 34 = .ok (.iconst 1, 1) := by decide +kernel
theorem dX7_names_35 : decode cX7_names 35 = .ok (.goto 4, 3) := by decide +kernel
theorem dX7_names_38 : decode cX7_names 38 = .ok (.iconst 0, 1) := by decide +kernel
theorem dX7_names_39 : decode cX7_names 39 = .ok (.istore 6, 2) := by decide +kernel
theorem dX7_names_41 : decode cX7_names 41 = .ok (.iload 6, 2) := by decide +kernel
theorem dX7_names_43 : decode cX7_names 43 = .ok (.ifCond .eq 107, 3) := by decide +kernel
theorem dX7_names_46 : decode cX7_names 46 = .ok (.aload_n 0, 1) := by decide +kernel
theorem dX7_names_47 : decode cX7_names 47 = .ok (.invokevirtual 149, 3) := by decide +kernel
theorem dX7_names_50 : decode cX7_names 50 = .ok (.istore 7, 2) := by decide +kernel
theorem dX7_names_52 : decode cX7_names 52 = .ok (.aload_n 0, 1) := by decide +kernel
theorem dX7_names_53 : decode cX7_names 53 = .ok (.getfield 96, 3) := by decide +kernel
theorem dX7_names_56 : decode cX7_names 56 = .ok (.ifCond .ne 23, 3) := by decide +kernel
theorem dX7_names_59 : decode cX7_names 59 = .ok (.iload 7, 2) := by decide +kernel
theorem dX7_names_61 : decode cX7_names 61 = .ok (.aload_n 3, 1) := by decide +kernel
theorem dX7_names_62 : decode cX7_names 62 = .ok (.iload 5, 2) := by decide +kernel
theorem dX7_names_64 : decode cX7_names 64 = .ok (.invokestatic 153, 3) := by decide +kernel
theorem dX7_names_67 : decode cX7_names 67 = .ok (.ifCond .lt 12, 3) := by decide +kernel
theorem dX7_names_70 : decode cX7_names 70 = .ok (.aload_n 0, 1) := by decide +kernel
theorem dX7_names_71 : decode cX7_names 71 = .ok (.iconst 3, 1) := by decide +kernel
theorem dX7_names_72 : decode cX7_names 72 = .ok (.aload_n 0, 1) := by decide +kernel
theorem dX7_names_73 : decode cX7_names 73 = .ok (.getfield 117, 3) := by decide +kernel
theorem dX7_names_76 : decode cX7_names 76 = .ok (.invokevirtual 136, 3) := by decide +kernel
theorem dX7_names_150 : decode cX7_names 150 = .ok (.aload_n 0, 1) := by decide +kernel
theorem dX7_names_151 : decode cX7_names 151 = .ok (.invokevirtual 161, 3) := by decide +kernel
theorem dX7_names_154 : decode cX7_names 154 = .ok (.iload 5, 2) := by decide +kernel
theorem dX7_names_156 : decode cX7_names 156 = .ok (.ireturn, 1) := by decide +kernel
theorem dX7_readsText_0 : decode cX7_readsText 0 = .ok (.aload_n 0, 1) := by decide +kernel
theorem dX7_readsText_1 : decode cX7_readsText 1 = .ok (.iconst 0, 1) := by decide +kernel
theorem dX7_readsText_2 : decode cX7_readsText 2 = .ok (.putfield 103, 3) := by decide +kernel
theorem dX7_readsText_5 : decode cX7_readsText 5 = .ok (.aload_n 0, 1) := by decide +kernel
theorem dX7_readsText_6 : decode cX7_readsText 6 = .ok (.iconst 0, 1) := by decide +kernel
theorem dX7_readsText_7 : decode cX7_readsText 7 = .ok (.putfield 96, 3) := by decide +kernel
theorem dX7_readsText_10 : decode cX7_readsText 10 = .ok (.iconst 0, 1) := by decide +kernel
theorem dX7_readsText_11 : decode cX7_readsText 11 = .ok (.istore_n 1, 1) := by decide +kernel
theorem dX7_readsText_12 : decode cX7_readsText 12 = .ok (.iload_n 1, 1) := by decide +kernel
theorem dX7_readsText_13 : decode cX7_readsText 13 = .ok (.sipush 2747, 3) := by decide +kernel
theorem dX7_readsText_16 : decode cX7_readsText 16 = .ok (.if_icmp .ge 16, 3) := by decide +kernel
theorem dX7_readsText_19 : decode cX7_readsText 19 = .ok (.aload_n 0, 1) := by decide +kernel
theorem dX7_readsText_20 : decode cX7_readsText 20 = .ok (.getfield 48, 3) := by decide +kernel
theorem dX7_readsText_23 : decode cX7_readsText 23 = .ok (.iload_n 1, 1) := by decide +kernel
theorem dX7_readsText_24 : decode cX7_readsText 24 = .ok (.iconst 0, 1) := by decide +kernel
theorem dX7_readsText_25 : decode cX7_readsText 25 = .ok (.iastore, 1) := by decide +kernel
theorem dX7_readsText_26 : decode cX7_readsText 26 = .ok (.iinc 1 1, 3) := by decide +kernel
theorem dX7_readsText_29 : decode cX7_readsText 29 = .ok (.goto (-17), 3) := by decide +kernel
theorem dX7_readsText_32 : decode cX7_readsText 32 = .ok (.aload_n 0, 1) := by decide +kernel
theorem dX7_readsText_33 : decode cX7_readsText 33 = .ok (.aload_n 0, 1) := by decide +kernel
theorem dX7_readsText_34 : decode cX7_readsText 34 = .ok (.ldc2_w 179, 3) := by decide +kernel
theorem dX7_readsText_37 : decode cX7_readsText 37 = .ok (.aload_n 0, 1) := by decide +kernel
theorem dX7_readsText_38 : decode cX7_readsText 38 = .ok (.getfield 42, 3) := by decide +kernel
theorem dX7_readsText_41 : decode cX7_readsText 41 = .ok (.bipush 6, 2) := by decide +kernel
theorem dX7_readsText_43 : decode cX7_readsText 43 = .ok (.invokevirtual 181, 3) := by decide +kernel
theorem dX7_readsText_46 : decode cX7_readsText 46 = .ok (.putfield 54, 3) := by decide +kernel
theorem dX7_readsText_49 : decode cX7_readsText 49 = .ok (.aload_n 0, 1) := by decide +kernel
theorem dX7_readsText_50 : decode cX7_readsText 50 = .ok (.aload_n 0, 1) := by decide +kernel
theorem dX7_readsText_51 : decode cX7_readsText 51 = .ok (.ldc2_w 185, 3) := by decide +kernel
theorem dX7_readsText_54 : decode cX7_readsText 54 = .ok (.aload_n 0, 1) := by decide +kernel
theorem dX7_readsText_55 : decode cX7_readsText 55 = .ok (.getfield 45, 3) := by decide +kernel
theorem dX7_readsText_58 : decode cX7_readsText 58 = .ok (.iconst 4, 1) := by decide +kernel
theorem dX7_readsText_59 : decode cX7_readsText 59 = .ok (.invokevirtual 181, 3) := by decide +kernel
theorem dX7_readsText_62 : decode cX7_readsText 62 = .ok (.putfield 57, 3) := by decide +kernel
theorem dX7_readsText_65 : decode cX7_readsText 65 = .ok (.iconst 0, 1) := by decide +kernel
theorem dX7_readsText_66 : decode cX7_readsText 66 = .ok (.istore_n 1, 1) := by decide +kernel
theorem dX7_readsText_67 : decode cX7_readsText 67 = .ok (.iload_n 1, 1) := by decide +kernel
theorem dX7_readsText_68 : decode cX7_readsText 68 = .ok (.aload_n 0, 1) := by decide +kernel
theorem dX7_readsText_69 : decode cX7_readsText 69 = .ok (.getfield 54, 3) := by decide +kernel
theorem dX7_readsText_72 : decode cX7_readsText 72 = .ok (.if_icmp .ge 21, 3) := by decide +kernel
theorem dX7_readsText_75 : decode cX7_readsText 75 = .ok (.aload_n 0, 1) := by decide +kernel
theorem dX7_readsText_76 : decode cX7_readsText 76 = .ok (.getfield 48, 3) := by decide +kernel
theorem dX7_readsText_79 : decode cX7_readsText 79 = .ok (.iload_n 1, 1) := by decide +kernel
theorem dX7_readsText_80 : decode cX7_readsText 80 = .ok (.invokestatic 78, 3) := by decide +kernel
theorem dX7_readsText_83 : decode cX7_readsText 83 = .ok (.iconst 0, 1) := by decide +kernel
theorem dX7_readsText_84 : decode cX7_readsText 84 = .ok (.iadd, 1) := by decide +kernel
theorem dX7_readsText_85 : decode cX7_readsText 85 = .ok (.iconst 1, 1) := by decide +kernel
theorem dX7_readsText_86 : decode cX7_readsText 86 = .ok (.iastore, 1) := by decide +kernel
theorem dX7_readsText_87 : decode cX7_readsText 87 = .ok (.iinc 1 1, 3) := by decide +kernel
theorem dX7_readsText_90 : decode cX7_readsText 90 = .ok (.goto (-23), 3) := by decide +kernel
theorem dX7_readsText_93 : decode cX7_readsText 93 = .ok (.aload_n 0, 1) := by decide +kernel
theorem dX7_readsText_94 : decode cX7_readsText 94 = .ok (.getfield 96, 3) := by decide +kernel
theorem dX7_readsText_97 : decode cX7_readsText 97 = .ok (.ifCond .ne 7, 3) := by decide +kernel
theorem dX7_readsText_100 : decode cX7_readsText 100 = .ok (.iconst 1, 1) := by decide +kernel
theorem dX7_readsText_101 : decode cX7_readsText 101 = .ok (.goto 4, 3) := by decide +kernel
theorem dX7_readsText_104 : decode cX7_readsText 104 = .ok (.iconst 0, 1) := by decide +kernel
theorem dX7_readsText_105 : decode cX7_readsText 105 = .ok (.istore_n 1, 1) := by decide +kernel
theorem dX7_readsText_106 : decode cX7_readsText 106 = .ok (.iload_n 1, 1) := by decide +kernel
theorem dX7_readsText_107 : decode cX7_readsText 107 = .ok (.ifCond .eq 71, 3) := by decide +kernel
theorem dX7_readsText_110 : decode cX7_readsText 110 = .ok (.aload_n 0, 1) := by decide +kernel
theorem dX7_readsText_111 : decode cX7_readsText 111 = .ok (.invokevirtual 114, 3) := by decide +kernel
theorem dX7_readsText_114 : decode cX7_readsText 114 = .ok (.aload_n 0, 1) := by decide +kernel
theorem dX7_readsText_115 : decode cX7_readsText 115 = .ok (.getfield 103, 3) := by decide +kernel
theorem dX7_readsText_118 : decode cX7_readsText 118 = .ok (.istore_n 2, 1) := by decide +kernel
theorem dX7_readsText_119 : decode cX7_readsText 119 = .ok (.aload_n 0, 1) := by decide +kernel
theorem dX7_readsText_120 : decode cX7_readsText 120 = .ok (.ldc2_w 187, 3) := by decide +kernel
theorem dX7_readsText_123 : decode cX7_readsText 123 = .ok (.invokevirtual 157, 3) := by decide +kernel
theorem dX7_readsText_126 : decode cX7_readsText 126 = .ok (.istore_n 1, 1) := by decide +kernel
theorem dX7_readsText_127 : decode cX7_readsText 127 = .ok (.iload_n 1, 1) := by decide +kernel
theorem dX7_readsText_128 : decode cX7_readsText 128 = .ok (.ifCond .eq 24, 3) := by decide +kernel
theorem dX7_readsText_131 : decode cX7_readsText 131 = .ok (.aload_n 0, 1) := by decide +kernel
theorem dX7_readsText_132 : decode cX7_readsText 132 = .ok (.getfield 48, 3) := by decide +kernel
theorem dX7_readsText_135 : decode cX7_readsText 135 = .ok (.bipush 8, 2) := by decide +kernel
theorem dX7_readsText_137 : decode cX7_readsText 137 = .ok (.iaload, 1) := by decide +kernel
theorem dX7_readsText_138 : decode cX7_readsText 138 = .ok (.bipush 12, 2) := by decide +kernel
theorem dX7_readsText_140 : decode cX7_readsText 140 = .ok (.if_icmp .ne 12, 3) := by decide +kernel
theorem dX7_readsText_143 : decode cX7_readsText 143 = .ok (.aload_n 0, 1) := by decide +kernel
theorem dX7_readsText_144 : decode cX7_readsText 144 = .ok (.iconst 5, 1) := by decide +kernel
theorem dX7_readsText_145 : decode cX7_readsText 145 = .ok (.iload_n 2, 1) := by decide +kernel
theorem dX7_readsText_146 : decode cX7_readsText 146 = .ok (.invokevirtual 136, 3) := by decide +kernel
theorem dX7_readsText_149 : decode cX7_readsText 149 = .ok (.goto 11, 3) := by decide +kernel
theorem dX7_readsText_178 : decode cX7_readsText 178 = .ok (.aload_n 0, 1) := by decide +kernel
theorem dX7_readsText_179 : decode cX7_readsText 179 = .ok (.getfield 96, 3) := by decide +kernel
theorem dX7_readsText_182 : decode cX7_readsText 182 = .ok (.ifCond .ne 93, 3) := by decide +kernel
theorem dX7_readsText_185 : decode cX7_readsText 185 = .ok (.aload_n 0, 1) := by decide +kernel
theorem dX7_readsText_186 : decode cX7_readsText 186 = .ok (.ldc2_w 192, 3) := by decide +kernel
theorem dX7_readsText_189 : decode cX7_readsText 189 = .ok (.invokevirtual 157, 3) := by decide +kernel
theorem dX7_readsText_192 : decode cX7_readsText 192 = .ok (.ifCond .eq 83, 3) := by decide +kernel
theorem dX7_readsText_195 : decode cX7_readsText 195 = .ok (.aload_n 0, 1) := by decide +kernel
theorem dX7_readsText_196 : decode cX7_readsText 196 = .ok (.aload_n 0, 1) := by decide +kernel
theorem dX7_readsText_197 : decode cX7_readsText 197 = .ok (.getfield 42, 3) := by decide +kernel
theorem dX7_readsText_200 : decode cX7_readsText 200 = .ok (.aload_n 0, 1) := by decide +kernel
theorem dX7_readsText_201 : decode cX7_readsText 201 = .ok (.getfield 54, 3) := by decide +kernel
theorem dX7_readsText_204 : decode cX7_readsText 204 = .ok (.invokevirtual 164, 3) := by decide +kernel
theorem dX7_readsText_207 : decode cX7_readsText 207 = .ok (.istore_n 2, 1) := by decide +kernel
theorem dX7_readsText_208 : decode cX7_readsText 208 = .ok (.aload_n 0, 1) := by decide +kernel
theorem dX7_readsText_209 : decode cX7_readsText 209 = .ok (.aload_n 0, 1) := by decide +kernel
theorem dX7_readsText_210 : decode cX7_readsText 210 = .ok (.getfield 45, 3) := by decide +kernel
theorem dX7_readsText_213 : decode cX7_readsText 213 = .ok (.aload_n 0, 1) := by decide +kernel
theorem dX7_readsText_214 : decode cX7_readsText 214 = .ok (.getfield 57, 3) := by decide +kernel
theorem dX7_readsText_217 : decode cX7_readsText 217 = .ok (.invokevirtual 164, 3) := by decide +kernel
theorem dX7_readsText_220 : decode cX7_readsText 220 = .ok (.istore_n 3, 1) := by decide +kernel
theorem dX7_readsText_221 : decode cX7_readsText 221 = .ok (.aload_n 0, 1) := by decide +kernel
theorem dX7_readsText_222 : decode cX7_readsText 222 = .ok (.getfield 96, 3) := by decide +kernel
theorem dX7_readsText_225 : decode cX7_readsText 225 = .ok (.ifCond .ne 27, 3) := by decide +kernel
theorem dX7_readsText_228 : decode cX7_readsText 228 = .ok (.aload_n 0, 1) := by decide +kernel
theorem dX7_readsText_229 : decode cX7_readsText 229 = .ok (.getfield 48, 3) := by decide +kernel
theorem dX7_readsText_232 : decode cX7_readsText 232 = .ok (.iload_n 2, 1) := by decide +kernel
theorem dX7_readsText_233 : decode cX7_readsText 233 = .ok (.iload_n 3, 1) := by decide +kernel
theorem dX7_readsText_234 : decode cX7_readsText 234 = .ok (.invokestatic 81, 3) := by decide +kernel
theorem dX7_readsText_237 : decode cX7_readsText 237 = .ok (.iconst 0, 1) := by decide +kernel
theorem dX7_readsText_238 : decode cX7_readsText 238 = .ok (.iadd, 1) := by decide +kernel
theorem dX7_readsText_239 : decode cX7_readsText 239 = .ok (.iaload, 1) := by decide +kernel
theorem dX7_readsText_240 : decode cX7_readsText 240 = .ok (.ifCond .eq 12, 3) := by decide +kernel
theorem dX7_readsText_243 : decode cX7_readsText 243 = .ok (.aload_n 0, 1) := by decide +kernel
theorem dX7_readsText_244 : decode cX7_readsText 244 = .ok (.iconst 3, 1) := by decide +kernel
theorem dX7_readsText_245 : decode cX7_readsText 245 = .ok (.aload_n 0, 1) := by decide +kernel
theorem dX7_readsText_246 : decode cX7_readsText 246 = .ok (.getfield 117, 3) := by decide +kernel
theorem dX7_readsText_249 : decode cX7_readsText 249 = .ok (.invokevirtual 136, 3) := by decide +kernel
theorem dX7_readsText_275 : decode cX7_readsText 275 = .ok (.aload_n 0, 1) := by decide +kernel
theorem dX7_readsText_276 : decode cX7_readsText 276 = .ok (.getfield 96, 3) := by decide +kernel
theorem dX7_readsText_279 : decode cX7_readsText 279 = .ok (.ifCond .ne 57, 3) := by decide +kernel
theorem dX7_readsText_282 : decode cX7_readsText 282 = .ok (.aload_n 0, 1) := by decide +kernel
theorem dX7_readsText_283 : decode cX7_readsText 283 = .ok (.ldc2_w 194, 3) := by decide +kernel
theorem dX7_readsText_286 : decode cX7_readsText 286 = .ok (.invokevirtual 157, 3) := by decide +kernel
theorem dX7_readsText_289 : decode cX7_readsText 289 = .ok (.ifCond .eq 47, 3) := by decide +kernel
theorem dX7_readsText_292 : decode cX7_readsText 292 = .ok (.aload_n 0, 1) := by decide +kernel
theorem dX7_readsText_293 : decode cX7_readsText 293 = .ok (.invokevirtual 196, 3) := by decide +kernel
theorem dX7_readsText_296 : decode cX7_readsText 296 = .ok (.aload_n 0, 1) := by decide +kernel
theorem dX7_readsText_297 : decode cX7_readsText 297 = .ok (.invokevirtual 114, 3) := by decide +kernel
theorem dX7_readsText_336 : decode cX7_readsText 336 = .ok (.aload_n 0, 1) := by decide +kernel
theorem dX7_readsText_337 : decode cX7_readsText 337 = .ok (.getfield 96, 3) := by decide +kernel
theorem dX7_readsText_340 : decode cX7_readsText 340 = .ok (.ifCond .ne 27, 3) := by decide +kernel
theorem dX7_readsText_343 : decode cX7_readsText 343 = .ok (.aload_n 0, 1) := by decide +kernel
theorem dX7_readsText_344 : decode cX7_readsText 344 = .ok (.invokevirtual 114, 3) := by decide +kernel
theorem dX7_readsText_347 : decode cX7_readsText 347 = .ok (.aload_n 0, 1) := by decide +kernel
theorem dX7_readsText_348 : decode cX7_readsText 348 = .ok (.getfield 103, 3) := by decide +kernel
theorem dX7_readsText_351 : decode cX7_readsText 351 = .ok (.aload_n 0, 1) := by decide +kernel
theorem dX7_readsText_352 : decode cX7_readsText 352 = .ok (.getfield 85, 3) := by decide +kernel
theorem dX7_readsText_355 : decode cX7_readsText 355 = .ok (.if_icmp .ge 12, 3) := by decide +kernel
theorem dX7_readsText_358 : decode cX7_readsText 358 = .ok (.aload_n 0, 1) := by decide +kernel
theorem dX7_readsText_359 : decode cX7_readsText 359 = .ok (.iconst 1, 1) := by decide +kernel
theorem dX7_readsText_360 : decode cX7_readsText 360 = .ok (.aload_n 0, 1) := by decide +kernel
theorem dX7_readsText_361 : decode cX7_readsText 361 = .ok (.getfield 103, 3) := by decide +kernel
theorem dX7_readsText_364 : decode cX7_readsText 364 = .ok (.invokevirtual 136, 3) := by decide +kernel
theorem dX7_readsText_367 : decode cX7_readsText 367 = .ok (.return_, 1) := by decide +kernel
theorem dX7_takesText_0 : decode cX7_takesText 0 = .ok (.iconst 0, 1) := by decide +kernel
theorem dX7_takesText_1 : decode cX7_takesText 1 = .ok (.istore_n 1, 1) := by decide +kernel
theorem dX7_takesText_2 : decode cX7_takesText 2 = .ok (.iload_n 1, 1) := by decide +kernel
theorem dX7_takesText_3 : decode cX7_takesText 3 = .ok (.sipush 2747, 3) := by decide +kernel
theorem dX7_takesText_6 : decode cX7_takesText 6 = .ok (.if_icmp .ge 21, 3) := by decide +kernel
theorem dX7_takesText_9 : decode cX7_takesText 9 = .ok (.aload_n 0, 1) := by decide +kernel
theorem dX7_takesText_10 : decode cX7_takesText 10 = .ok (.getfield 17, 3) := by decide +kernel
theorem dX7_takesText_13 : decode cX7_takesText 13 = .ok (.iload_n 1, 1) := by decide +kernel
theorem dX7_takesText_14 : decode cX7_takesText 14 = .ok (.aload_n 0, 1) := by decide +kernel
theorem dX7_takesText_15 : decode cX7_takesText 15 = .ok (.getfield 48, 3) := by decide +kernel
theorem dX7_takesText_18 : decode cX7_takesText 18 = .ok (.iload_n 1, 1) := by decide +kernel
theorem dX7_takesText_19 : decode cX7_takesText 19 = .ok (.iaload, 1) := by decide +kernel
theorem dX7_takesText_20 : decode cX7_takesText 20 = .ok (.iastore, 1) := by decide +kernel
theorem dX7_takesText_21 : decode cX7_takesText 21 = .ok (.iinc 1 1, 3) := by decide +kernel
theorem dX7_takesText_24 : decode cX7_takesText 24 = .ok (.goto (-22), 3) := by decide +kernel
theorem dX7_takesText_27 : decode cX7_takesText 27 = .ok (.aload_n 0, 1) := by decide +kernel
theorem dX7_takesText_28 : decode cX7_takesText 28 = .ok (.aload_n 0, 1) := by decide +kernel
theorem dX7_takesText_29 : decode cX7_takesText 29 = .ok (.getfield 54, 3) := by decide +kernel
theorem dX7_takesText_32 : decode cX7_takesText 32 = .ok (.putfield 199, 3) := by decide +kernel
theorem dX7_takesText_35 : decode cX7_takesText 35 = .ok (.aload_n 0, 1) := by decide +kernel
theorem dX7_takesText_36 : decode cX7_takesText 36 = .ok (.aload_n 0, 1) := by decide +kernel
theorem dX7_takesText_37 : decode cX7_takesText 37 = .ok (.getfield 57, 3) := by decide +kernel
theorem dX7_takesText_40 : decode cX7_takesText 40 = .ok (.putfield 202, 3) := by decide +kernel
theorem dX7_takesText_43 : decode cX7_takesText 43 = .ok (.iconst 0, 1) := by decide +kernel
theorem dX7_takesText_44 : decode cX7_takesText 44 = .ok (.istore_n 1, 1) := by decide +kernel
theorem dX7_takesText_45 : decode cX7_takesText 45 = .ok (.iload_n 1, 1) := by decide +kernel
theorem dX7_takesText_46 : decode cX7_takesText 46 = .ok (.aload_n 0, 1) := by decide +kernel
theorem dX7_takesText_47 : decode cX7_takesText 47 = .ok (.getfield 199, 3) := by decide +kernel
theorem dX7_takesText_50 : decode cX7_takesText 50 = .ok (.if_icmp .ge 21, 3) := by decide +kernel
theorem dX7_takesText_53 : decode cX7_takesText 53 = .ok (.aload_n 0, 1) := by decide +kernel
theorem dX7_takesText_54 : decode cX7_takesText 54 = .ok (.getfield 7, 3) := by decide +kernel
theorem dX7_takesText_57 : decode cX7_takesText 57 = .ok (.iload_n 1, 1) := by decide +kernel
theorem dX7_takesText_58 : decode cX7_takesText 58 = .ok (.aload_n 0, 1) := by decide +kernel
theorem dX7_takesText_59 : decode cX7_takesText 59 = .ok (.getfield 42, 3) := by decide +kernel
theorem dX7_takesText_62 : decode cX7_takesText 62 = .ok (.iload_n 1, 1) := by decide +kernel
theorem dX7_takesText_63 : decode cX7_takesText 63 = .ok (.iaload, 1) := by decide +kernel
theorem dX7_takesText_64 : decode cX7_takesText 64 = .ok (.iastore, 1) := by decide +kernel
theorem dX7_takesText_65 : decode cX7_takesText 65 = .ok (.iinc 1 1, 3) := by decide +kernel
theorem dX7_takesText_68 : decode cX7_takesText 68 = .ok (.goto (-23), 3) := by decide +kernel
theorem dX7_takesText_71 : decode cX7_takesText 71 = .ok (.iconst 0, 1) := by decide +kernel
theorem dX7_takesText_72 : decode cX7_takesText 72 = .ok (.istore_n 1, 1) := by decide +kernel
theorem dX7_takesText_73 : decode cX7_takesText 73 = .ok (.iload_n 1, 1) := by decide +kernel
theorem dX7_takesText_74 : decode cX7_takesText 74 = .ok (.aload_n 0, 1) := by decide +kernel
theorem dX7_takesText_75 : decode cX7_takesText 75 = .ok (.getfield 202, 3) := by decide +kernel
theorem dX7_takesText_78 : decode cX7_takesText 78 = .ok (.if_icmp .ge 21, 3) := by decide +kernel
theorem dX7_takesText_81 : decode cX7_takesText 81 = .ok (.aload_n 0, 1) := by decide +kernel
theorem dX7_takesText_82 : decode cX7_takesText 82 = .ok (.getfield 13, 3) := by decide +kernel
theorem dX7_takesText_85 : decode cX7_takesText 85 = .ok (.iload_n 1, 1) := by decide +kernel
theorem dX7_takesText_86 : decode cX7_takesText 86 = .ok (.aload_n 0, 1) := by decide +kernel
theorem dX7_takesText_87 : decode cX7_takesText 87 = .ok (.getfield 45, 3) := by decide +kernel
theorem dX7_takesText_90 : decode cX7_takesText 90 = .ok (.iload_n 1, 1) := by decide +kernel
theorem dX7_takesText_91 : decode cX7_takesText 91 = .ok (.iaload, 1) := by decide +kernel
theorem dX7_takesText_92 : decode cX7_takesText 92 = .ok (.iastore, 1) := by decide +kernel
theorem dX7_takesText_93 : decode cX7_takesText 93 = .ok (.iinc 1 1, 3) := by decide +kernel
theorem dX7_takesText_96 : decode cX7_takesText 96 = .ok (.goto (-23), 3) := by decide +kernel
theorem dX7_takesText_99 : decode cX7_takesText 99 = .ok (.aload_n 0, 1) := by decide +kernel
theorem dX7_takesText_100 : decode cX7_takesText 100 = .ok (.iconst 0, 1) := by decide +kernel
theorem dX7_takesText_101 : decode cX7_takesText 101 = .ok (.putfield 205, 3) := by decide +kernel
theorem dX7_takesText_104 : decode cX7_takesText 104 = .ok (.aload_n 0, 1) := by decide +kernel
theorem dX7_takesText_105 : decode cX7_takesText 105 = .ok (.getfield 31, 3) := by decide +kernel
theorem dX7_takesText_108 : decode cX7_takesText 108 = .ok (.iconst 0, 1) := by decide +kernel
theorem dX7_takesText_109 : decode cX7_takesText 109 = .ok (.iconst 0, 1) := by decide +kernel
theorem dX7_takesText_110 : decode cX7_takesText 110 = .ok (.bastore, 1) := by decide +kernel
theorem dX7_takesText_111 : decode cX7_takesText 111 = .ok (.aload_n 0, 1) := by decide +kernel
theorem dX7_takesText_112 : decode cX7_takesText 112 = .ok (.getfield 31, 3) := by decide +kernel
theorem dX7_takesText_115 : decode cX7_takesText 115 = .ok (.iconst 1, 1) := by decide +kernel
theorem dX7_takesText_116 : decode cX7_takesText 116 = .ok (.iconst 0, 1) := by decide +kernel
theorem dX7_takesText_117 : decode cX7_takesText 117 = .ok (.bastore, 1) := by decide +kernel
theorem dX7_takesText_118 : decode cX7_takesText 118 = .ok (.return_, 1) := by decide +kernel
theorem dX7_load_0 : decode cX7_load 0 = .ok (.aload_n 0, 1) := by decide +kernel
theorem dX7_load_1 : decode cX7_load 1 = .ok (.iconst 0, 1) := by decide +kernel
theorem dX7_load_2 : decode cX7_load 2 = .ok (.putfield 100, 3) := by decide +kernel
theorem dX7_load_5 : decode cX7_load 5 = .ok (.aload_n 0, 1) := by decide +kernel
theorem dX7_load_6 : decode cX7_load 6 = .ok (.iconst (-1), 1) := by decide +kernel
theorem dX7_load_7 : decode cX7_load 7 = .ok (.putfield 38, 3) := by decide +kernel
theorem dX7_load_10 : decode cX7_load 10 = .ok (.aload_n 0, 1) := by decide +kernel
theorem dX7_load_11 : decode cX7_load 11 = .ok (.invokevirtual 208, 3) := by decide +kernel
theorem dX7_load_14 : decode cX7_load 14 = .ok (.aload_n 0, 1) := by decide +kernel
theorem dX7_load_15 : decode cX7_load 15 = .ok (.iconst 0, 1) := by decide +kernel
theorem dX7_load_16 : decode cX7_load 16 = .ok (.putfield 85, 3) := by decide +kernel
theorem dX7_load_19 : decode cX7_load 19 = .ok (.aload_n 0, 1) := by decide +kernel
theorem dX7_load_20 : decode cX7_load 20 = .ok (.aload_n 0, 1) := by decide +kernel
theorem dX7_load_21 : decode cX7_load 21 = .ok (.getfield 96, 3) := by decide +kernel
theorem dX7_load_24 : decode cX7_load 24 = .ok (.ifCond .eq 7, 3) := by decide +kernel
theorem dX7_load_27 : decode cX7_load 27 = .ok (.iconst 1, 1) := by decide +kernel
theorem dX7_load_28 : decode cX7_load 28 = .ok (.goto 4, 3) := by decide +kernel
theorem dX7_load_32 : decode cX7_load 32 = .ok (.putfield 71, 3) := by decide +kernel
theorem dX7_load_35 : decode cX7_load 35 = .ok (.aload_n 0, 1) := by decide +kernel
theorem dX7_load_36 : decode cX7_load 36 = .ok (.getfield 71, 3) := by decide +kernel
theorem dX7_load_39 : decode cX7_load 39 = .ok (.ifCond .le 5, 3) := by decide +kernel
theorem dX7_load_42 : decode cX7_load 42 = .ok (.iconst 0, 1) := by decide +kernel
theorem dX7_load_43 : decode cX7_load 43 = .ok (.ireturn, 1) := by decide +kernel
theorem dX7_errorCode_0 : decode cX7_errorCode 0 = .ok (.aload_n 0, 1) := by decide +kernel
theorem dX7_errorCode_1 : decode cX7_errorCode 1 = .ok (.iconst 0, 1) := by decide +kernel
theorem dX7_errorCode_2 : decode cX7_errorCode 2 = .ok (.putfield 71, 3) := by decide +kernel
theorem dX7_errorCode_5 : decode cX7_errorCode 5 = .ok (.aload_n 0, 1) := by decide +kernel
theorem dX7_errorCode_6 : decode cX7_errorCode 6 = .ok (.getfield 100, 3) := by decide +kernel
theorem dX7_errorCode_9 : decode cX7_errorCode 9 = .ok (.ireturn, 1) := by decide +kernel
theorem dX7_errorPosition_0 : decode cX7_errorPosition 0 = .ok (.aload_n 0, 1) := by decide +kernel
theorem dX7_errorPosition_1 : decode cX7_errorPosition 1 = .ok (.iconst 0, 1) := by decide +kernel
theorem dX7_errorPosition_2 : decode cX7_errorPosition 2 = .ok (.putfield 71, 3) := by decide +kernel
theorem dX7_errorPosition_5 : decode cX7_errorPosition 5 = .ok (.aload_n 0, 1) := by decide +kernel
theorem dX7_errorPosition_6 : decode cX7_errorPosition 6 = .ok (.getfield 38, 3) := by decide +kernel
theorem dX7_errorPosition_9 : decode cX7_errorPosition 9 = .ok (.ireturn, 1) := by decide +kernel
theorem dX7_content_0 : decode cX7_content 0 = .ok (.iconst 0, 1) := by decide +kernel
theorem dX7_content_1 : decode cX7_content 1 = .ok (.istore_n 1, 1) := by decide +kernel
theorem dX7_content_2 : decode cX7_content 2 = .ok (.iconst 0, 1) := by decide +kernel
theorem dX7_content_3 : decode cX7_content 3 = .ok (.istore_n 2, 1) := by decide +kernel
theorem dX7_content_4 : decode cX7_content 4 = .ok (.iload_n 2, 1) := by decide +kernel
theorem dX7_content_5 : decode cX7_content 5 = .ok (.aload_n 0, 1) := by decide +kernel
theorem dX7_content_6 : decode cX7_content 6 = .ok (.getfield 85, 3) := by decide +kernel
theorem dX7_content_9 : decode cX7_content 9 = .ok (.if_icmp .ge 48, 3) := by decide +kernel
theorem dX7_content_12 : decode cX7_content 12 = .ok (.aload_n 0, 1) := by decide +kernel
theorem dX7_content_13 : decode cX7_content 13 = .ok (.iload_n 2, 1) := by decide +kernel
theorem dX7_content_14 : decode cX7_content 14 = .ok (.invokevirtual 120, 3) := by decide +kernel
theorem dX7_content_17 : decode cX7_content 17 = .ok (.ifCond .eq 32, 3) := by decide +kernel
theorem dX7_content_20 : decode cX7_content 20 = .ok (.iload_n 2, 1) := by decide +kernel
theorem dX7_content_21 : decode cX7_content 21 = .ok (.bipush 6, 2) := by decide +kernel
theorem dX7_content_23 : decode cX7_content 23 = .ok (.if_icmp .ge 26, 3) := by decide +kernel
theorem dX7_content_26 : decode cX7_content 26 = .ok (.iload_n 1, 1) := by decide +kernel
theorem dX7_content_27 : decode cX7_content 27 = .ok (.ifCond .lt 22, 3) := by decide +kernel
theorem dX7_content_30 : decode cX7_content 30 = .ok (.bipush 27, 2) := by decide +kernel
theorem dX7_content_32 : decode cX7_content 32 = .ok (.iload_n 1, 1) := by decide +kernel
theorem dX7_content_33 : decode cX7_content 33 = .ok (.imul, 1) := by decide +kernel
theorem dX7_content_34 : decode cX7_content 34 = .ok (.aload_n 0, 1) := by decide +kernel
theorem dX7_content_35 : decode cX7_content 35 = .ok (.getfield 35, 3) := by decide +kernel
theorem dX7_content_38 : decode cX7_content 38 = .ok (.iload_n 2, 1) := by decide +kernel
theorem dX7_content_39 : decode cX7_content 39 = .ok (.iaload, 1) := by decide +kernel
theorem dX7_content_40 : decode cX7_content 40 = .ok (.iadd, 1) := by decide +kernel
theorem dX7_content_41 : decode cX7_content 41 = .ok (.bipush 97, 2) := by decide +kernel
theorem dX7_content_43 : decode cX7_content 43 = .ok (.isub, 1) := by decide +kernel
theorem dX7_content_44 : decode cX7_content 44 = .ok (.iconst 1, 1) := by decide +kernel
theorem dX7_content_45 : decode cX7_content 45 = .ok (.iadd, 1) := by decide +kernel
theorem dX7_content_46 : decode cX7_content 46 = .ok (.goto 4, 3) := by decide +kernel
theorem dX7_content_57 : decode cX7_content 57 = .ok (.aload_n 0, 1) := by decide +kernel
theorem dX7_content_58 : decode cX7_content 58 = .ok (.iconst 0, 1) := by decide +kernel
theorem dX7_content_59 : decode cX7_content 59 = .ok (.putfield 85, 3) := by decide +kernel
theorem dX7_content_62 : decode cX7_content 62 = .ok (.iload_n 1, 1) := by decide +kernel
theorem dX7_content_63 : decode cX7_content 63 = .ok (.ifCond .ge 7, 3) := by decide +kernel
theorem dX7_content_66 : decode cX7_content 66 = .ok (.iconst 0, 1) := by decide +kernel
theorem dX7_content_67 : decode cX7_content 67 = .ok (.goto 4, 3) := by decide +kernel
theorem dX7_content_70 : decode cX7_content 70 = .ok (.iload_n 1, 1) := by decide +kernel
theorem dX7_content_71 : decode cX7_content 71 = .ok (.ireturn, 1) := by decide +kernel
theorem dX7_find_0 : decode cX7_find 0 = .ok (.aload_n 0, 1) := by decide +kernel
theorem dX7_find_1 : decode cX7_find 1 = .ok (.invokevirtual 211, 3) := by decide +kernel
theorem dX7_find_4 : decode cX7_find 4 = .ok (.istore_n 2, 1) := by decide +kernel
theorem dX7_find_5 : decode cX7_find 5 = .ok (.aload_n 0, 1) := by decide +kernel
theorem dX7_find_6 : decode cX7_find 6 = .ok (.iload_n 1, 1) := by decide +kernel
theorem dX7_find_7 : decode cX7_find 7 = .ok (.i2l, 1) := by decide +kernel
theorem dX7_find_8 : decode cX7_find 8 = .ok (.lconst 0, 1) := by decide +kernel
theorem dX7_find_9 : decode cX7_find 9 = .ok (.ldc2_w 214, 3) := by decide +kernel
theorem dX7_find_12 : decode cX7_find 12 = .ok (.invokestatic 92, 3) := by decide +kernel
theorem dX7_find_15 : decode cX7_find 15 = .ok (.ifCond .eq 7, 3) := by decide +kernel
theorem dX7_find_18 : decode cX7_find 18 = .ok (.iconst 0, 1) := by decide +kernel
theorem dX7_find_19 : decode cX7_find 19 = .ok (.goto 4, 3) := by decide +kernel
theorem dX7_find_22 : decode cX7_find 22 = .ok (.iconst 1, 1) := by decide +kernel
theorem dX7_find_23 : decode cX7_find 23 = .ok (.putfield 71, 3) := by decide +kernel
theorem dX7_find_26 : decode cX7_find 26 = .ok (.aload_n 0, 1) := by decide +kernel
theorem dX7_find_27 : decode cX7_find 27 = .ok (.getfield 71, 3) := by decide +kernel
theorem dX7_find_30 : decode cX7_find 30 = .ok (.ifCond .le 5, 3) := by decide +kernel
theorem dX7_find_33 : decode cX7_find 33 = .ok (.iconst 0, 1) := by decide +kernel
theorem dX7_find_34 : decode cX7_find 34 = .ok (.ireturn, 1) := by decide +kernel
theorem dX7_find_35 : decode cX7_find 35 = .ok (.iload_n 1, 1) := by decide +kernel
theorem dX7_find_36 : decode cX7_find 36 = .ok (.ifCond .ne 18, 3) := by decide +kernel
theorem dX7_find_39 : decode cX7_find 39 = .ok (.iload_n 2, 1) := by decide +kernel
theorem dX7_find_40 : decode cX7_find 40 = .ok (.aload_n 0, 1) := by decide +kernel
theorem dX7_find_41 : decode cX7_find 41 = .ok (.getfield 7, 3) := by decide +kernel
theorem dX7_find_44 : decode cX7_find 44 = .ok (.aload_n 0, 1) := by decide +kernel
theorem dX7_find_45 : decode cX7_find 45 = .ok (.getfield 199, 3) := by decide +kernel
theorem dX7_find_48 : decode cX7_find 48 = .ok (.invokestatic 153, 3) := by decide +kernel
theorem dX7_find_51 : decode cX7_find 51 = .ok (.goto 24, 3) := by decide +kernel
theorem dX7_find_54 : decode cX7_find 54 = .ok (.iload_n 1, 1) := by decide +kernel
theorem dX7_find_55 : decode cX7_find 55 = .ok (.iconst 1, 1) := by decide +kernel
theorem dX7_find_56 : decode cX7_find 56 = .ok (.if_icmp .ne 18, 3) := by decide +kernel
theorem dX7_find_59 : decode cX7_find 59 = .ok (.iload_n 2, 1) := by decide +kernel
theorem dX7_find_60 : decode cX7_find 60 = .ok (.aload_n 0, 1) := by decide +kernel
theorem dX7_find_61 : decode cX7_find 61 = .ok (.getfield 13, 3) := by decide +kernel
theorem dX7_find_64 : decode cX7_find 64 = .ok (.aload_n 0, 1) := by decide +kernel
theorem dX7_find_65 : decode cX7_find 65 = .ok (.getfield 202, 3) := by decide +kernel
theorem dX7_find_68 : decode cX7_find 68 = .ok (.invokestatic 153, 3) := by decide +kernel
theorem dX7_find_71 : decode cX7_find 71 = .ok (.goto 4, 3) := by decide +kernel
theorem dX7_find_74 : decode cX7_find 74 = .ok (.iconst (-1), 1) := by decide +kernel
theorem dX7_find_75 : decode cX7_find 75 = .ok (.istore_n 3, 1) := by decide +kernel
theorem dX7_find_76 : decode cX7_find 76 = .ok (.iconst 0, 1) := by decide +kernel
theorem dX7_find_77 : decode cX7_find 77 = .ok (.istore 4, 2) := by decide +kernel
theorem dX7_find_79 : decode cX7_find 79 = .ok (.iload 4, 2) := by decide +kernel
theorem dX7_find_81 : decode cX7_find 81 = .ok (.aload_n 0, 1) := by decide +kernel
theorem dX7_find_82 : decode cX7_find 82 = .ok (.getfield 17, 3) := by decide +kernel
theorem dX7_find_85 : decode cX7_find 85 = .ok (.bipush 8, 2) := by decide +kernel
theorem dX7_find_87 : decode cX7_find 87 = .ok (.iaload, 1) := by decide +kernel
theorem dX7_find_88 : decode cX7_find 88 = .ok (.if_icmp .ge 41, 3) := by decide +kernel
theorem dX7_find_91 : decode cX7_find 91 = .ok (.iload_n 1, 1) := by decide +kernel
theorem dX7_find_92 : decode cX7_find 92 = .ok (.iconst 2, 1) := by decide +kernel
theorem dX7_find_93 : decode cX7_find 93 = .ok (.if_icmp .ne 36, 3) := by decide +kernel
theorem dX7_find_96 : decode cX7_find 96 = .ok (.iload_n 3, 1) := by decide +kernel
theorem dX7_find_97 : decode cX7_find 97 = .ok (.ifCond .ge 32, 3) := by decide +kernel
theorem dX7_find_100 : decode cX7_find 100 = .ok (.aload_n 0, 1) := by decide +kernel
theorem dX7_find_101 : decode cX7_find 101 = .ok (.getfield 17, 3) := by decide +kernel
theorem dX7_find_104 : decode cX7_find 104 = .ok (.iload 4, 2) := by decide +kernel
theorem dX7_find_106 : decode cX7_find 106 = .ok (.invokestatic 74, 3) := by decide +kernel
theorem dX7_find_109 : decode cX7_find 109 = .ok (.iconst 2, 1) := by decide +kernel
theorem dX7_find_110 : decode cX7_find 110 = .ok (.iadd, 1) := by decide +kernel
theorem dX7_find_111 : decode cX7_find 111 = .ok (.iaload, 1) := by decide +kernel
theorem dX7_find_112 : decode cX7_find 112 = .ok (.iload_n 2, 1) := by decide +kernel
theorem dX7_find_113 : decode cX7_find 113 = .ok (.if_icmp .ne 8, 3) := by decide +kernel
theorem dX7_find_116 : decode cX7_find 116 = .ok (.iload 4, 2) := by decide +kernel
theorem dX7_find_118 : decode cX7_find 118 = .ok (.goto 4, 3) := by decide +kernel
theorem dX7_find_121 : decode cX7_find 121 = .ok (.iconst (-1), 1) := by decide +kernel
theorem dX7_find_122 : decode cX7_find 122 = .ok (.istore_n 3, 1) := by decide +kernel
theorem dX7_find_123 : decode cX7_find 123 = .ok (.iinc 4 1, 3) := by decide +kernel
theorem dX7_find_126 : decode cX7_find 126 = .ok (.goto (-47), 3) := by decide +kernel
theorem dX7_find_129 : decode cX7_find 129 = .ok (.aload_n 0, 1) := by decide +kernel
theorem dX7_find_130 : decode cX7_find 130 = .ok (.iload_n 3, 1) := by decide +kernel
theorem dX7_find_131 : decode cX7_find 131 = .ok (.ifCond .ge 7, 3) := by decide +kernel
theorem dX7_find_134 : decode cX7_find 134 = .ok (.iconst 2, 1) := by decide +kernel
theorem dX7_find_135 : decode cX7_find 135 = .ok (.goto 4, 3) := by decide +kernel
theorem dX7_find_139 : decode cX7_find 139 = .ok (.putfield 71, 3) := by decide +kernel
theorem dX7_find_142 : decode cX7_find 142 = .ok (.aload_n 0, 1) := by decide +kernel
theorem dX7_find_143 : decode cX7_find 143 = .ok (.getfield 71, 3) := by decide +kernel
theorem dX7_find_146 : decode cX7_find 146 = .ok (.ifCond .le 7, 3) := by decide +kernel
theorem dX7_find_149 : decode cX7_find 149 = .ok (.iconst 0, 1) := by decide +kernel
theorem dX7_find_150 : decode cX7_find 150 = .ok (.goto 4, 3) := by decide +kernel
theorem dX7_find_154 : decode cX7_find 154 = .ok (.ireturn, 1) := by decide +kernel
theorem dX7_logs_0 : decode cX7_logs 0 = .ok (.sipush 1107, 3) := by decide +kernel
theorem dX7_logs_3 : decode cX7_logs 3 = .ok (.iconst 4, 1) := by decide +kernel
theorem dX7_logs_4 : decode cX7_logs 4 = .ok (.aload_n 0, 1) := by decide +kernel
theorem dX7_logs_5 : decode cX7_logs 5 = .ok (.getfield 17, 3) := by decide +kernel
theorem dX7_logs_8 : decode cX7_logs 8 = .ok (.bipush 6, 2) := by decide +kernel
theorem dX7_logs_10 : decode cX7_logs 10 = .ok (.iaload, 1) := by decide +kernel
theorem dX7_logs_11 : decode cX7_logs 11 = .ok (.bipush 20, 2) := by decide +kernel
theorem dX7_logs_13 : decode cX7_logs 13 = .ok (.irem, 1) := by decide +kernel
theorem dX7_logs_14 : decode cX7_logs 14 = .ok (.imul, 1) := by decide +kernel
theorem dX7_logs_15 : decode cX7_logs 15 = .ok (.iadd, 1) := by decide +kernel
theorem dX7_logs_16 : decode cX7_logs 16 = .ok (.istore 4, 2) := by decide +kernel
theorem dX7_logs_18 : decode cX7_logs 18 = .ok (.aload_n 0, 1) := by decide +kernel
theorem dX7_logs_19 : decode cX7_logs 19 = .ok (.getfield 17, 3) := by decide +kernel
theorem dX7_logs_22 : decode cX7_logs 22 = .ok (.iload 4, 2) := by decide +kernel
theorem dX7_logs_24 : decode cX7_logs 24 = .ok (.iload_n 1, 1) := by decide +kernel
theorem dX7_logs_25 : decode cX7_logs 25 = .ok (.iastore, 1) := by decide +kernel
theorem dX7_logs_26 : decode cX7_logs 26 = .ok (.aload_n 0, 1) := by decide +kernel
theorem dX7_logs_27 : decode cX7_logs 27 = .ok (.getfield 17, 3) := by decide +kernel
theorem dX7_logs_30 : decode cX7_logs 30 = .ok (.iload 4, 2) := by decide +kernel
theorem dX7_logs_32 : decode cX7_logs 32 = .ok (.iconst 1, 1) := by decide +kernel
theorem dX7_logs_33 : decode cX7_logs 33 = .ok (.iadd, 1) := by decide +kernel
theorem dX7_logs_34 : decode cX7_logs 34 = .ok (.aload_n 0, 1) := by decide +kernel
theorem dX7_logs_35 : decode cX7_logs 35 = .ok (.getfield 17, 3) := by decide +kernel
theorem dX7_logs_38 : decode cX7_logs 38 = .ok (.iconst 0, 1) := by decide +kernel
theorem dX7_logs_39 : decode cX7_logs 39 = .ok (.iaload, 1) := by decide +kernel
theorem dX7_logs_40 : decode cX7_logs 40 = .ok (.iastore, 1) := by decide +kernel
theorem dX7_logs_41 : decode cX7_logs 41 = .ok (.aload_n 0, 1) := by decide +kernel
theorem dX7_logs_42 : decode cX7_logs 42 = .ok (.getfield 17, 3) := by decide +kernel
theorem dX7_logs_45 : decode cX7_logs 45 = .ok (.iload 4, 2) := by decide +kernel
theorem dX7_logs_47 : decode cX7_logs 47 = .ok (.iconst 2, 1) := by decide +kernel
theorem dX7_logs_48 : decode cX7_logs 48 = .ok (.iadd, 1) := by decide +kernel
theorem dX7_logs_49 : decode cX7_logs 49 = .ok (.iload_n 2, 1) := by decide +kernel
theorem dX7_logs_50 : decode cX7_logs 50 = .ok (.iastore, 1) := by decide +kernel
theorem dX7_logs_51 : decode cX7_logs 51 = .ok (.aload_n 0, 1) := by decide +kernel
theorem dX7_logs_52 : decode cX7_logs 52 = .ok (.getfield 17, 3) := by decide +kernel
theorem dX7_logs_55 : decode cX7_logs 55 = .ok (.iload 4, 2) := by decide +kernel
theorem dX7_logs_57 : decode cX7_logs 57 = .ok (.iconst 3, 1) := by decide +kernel
theorem dX7_logs_58 : decode cX7_logs 58 = .ok (.iadd, 1) := by decide +kernel
theorem dX7_logs_59 : decode cX7_logs 59 = .ok (.iload_n 3, 1) := by decide +kernel
theorem dX7_logs_60 : decode cX7_logs 60 = .ok (.iastore, 1) := by decide +kernel
theorem dX7_logs_61 : decode cX7_logs 61 = .ok (.aload_n 0, 1) := by decide +kernel
theorem dX7_logs_62 : decode cX7_logs 62 = .ok (.getfield 17, 3) := by decide +kernel
theorem dX7_logs_65 : decode cX7_logs 65 = .ok (.bipush 6, 2) := by decide +kernel
theorem dX7_logs_67 : decode cX7_logs 67 = .ok (.dup2, 1) := by decide +kernel
theorem dX7_logs_68 : decode cX7_logs 68 = .ok (.iaload, 1) := by decide +kernel
theorem dX7_logs_69 : decode cX7_logs 69 = .ok (.iconst 1, 1) := by decide +kernel
theorem dX7_logs_70 : decode cX7_logs 70 = .ok (.iadd, 1) := by decide +kernel
theorem dX7_logs_71 : decode cX7_logs 71 = .ok (.iastore, 1) := by decide +kernel
theorem dX7_logs_72 : decode cX7_logs 72 = .ok (.return_, 1) := by decide +kernel
theorem dX7_sends_0 : decode cX7_sends 0 = .ok (.aload_n 0, 1) := by decide +kernel
theorem dX7_sends_1 : decode cX7_sends 1 = .ok (.getfield 17, 3) := by decide +kernel
theorem dX7_sends_4 : decode cX7_sends 4 = .ok (.iconst 1, 1) := by decide +kernel
theorem dX7_sends_5 : decode cX7_sends 5 = .ok (.iaload, 1) := by decide +kernel
theorem dX7_sends_6 : decode cX7_sends 6 = .ok (.istore 8, 2) := by decide +kernel
theorem dX7_sends_8 : decode cX7_sends 8 = .ok (.aload_n 0, 1) := by decide +kernel
theorem dX7_sends_9 : decode cX7_sends 9 = .ok (.getfield 17, 3) := by decide +kernel
theorem dX7_sends_12 : decode cX7_sends 12 = .ok (.iconst 1, 1) := by decide +kernel
theorem dX7_sends_13 : decode cX7_sends 13 = .ok (.dup2, 1) := by decide +kernel
theorem dX7_sends_14 : decode cX7_sends 14 = .ok (.iaload, 1) := by decide +kernel
theorem dX7_sends_15 : decode cX7_sends 15 = .ok (.iconst 1, 1) := by decide +kernel
theorem dX7_sends_16 : decode cX7_sends 16 = .ok (.iadd, 1) := by decide +kernel
theorem dX7_sends_17 : decode cX7_sends 17 = .ok (.iastore, 1) := by decide +kernel
theorem dX7_sends_18 : decode cX7_sends 18 = .ok (.aload_n 0, 1) := by decide +kernel
theorem dX7_sends_19 : decode cX7_sends 19 = .ok (.getfield 17, 3) := by decide +kernel
theorem dX7_sends_22 : decode cX7_sends 22 = .ok (.iload_n 2, 1) := by decide +kernel
theorem dX7_sends_23 : decode cX7_sends 23 = .ok (.invokestatic 78, 3) := by decide +kernel
theorem dX7_sends_26 : decode cX7_sends 26 = .ok (.iconst 2, 1) := by decide +kernel
theorem dX7_sends_27 : decode cX7_sends 27 = .ok (.iadd, 1) := by decide +kernel
theorem dX7_sends_28 : decode cX7_sends 28 = .ok (.dup2, 1) := by decide +kernel
theorem dX7_sends_29 : decode cX7_sends 29 = .ok (.iaload, 1) := by decide +kernel
theorem dX7_sends_30 : decode cX7_sends 30 = .ok (.iconst 1, 1) := by decide +kernel
theorem dX7_sends_31 : decode cX7_sends 31 = .ok (.iadd, 1) := by decide +kernel
theorem dX7_sends_32 : decode cX7_sends 32 = .ok (.iastore, 1) := by decide +kernel
theorem dX7_sends_33 : decode cX7_sends 33 = .ok (.aload_n 0, 1) := by decide +kernel
theorem dX7_sends_34 : decode cX7_sends 34 = .ok (.getfield 17, 3) := by decide +kernel
theorem dX7_sends_37 : decode cX7_sends 37 = .ok (.iload 8, 2) := by decide +kernel
theorem dX7_sends_39 : decode cX7_sends 39 = .ok (.invokestatic 175, 3) := by decide +kernel
theorem dX7_sends_42 : decode cX7_sends 42 = .ok (.ifCond .eq 23, 3) := by decide +kernel
theorem dX7_sends_45 : decode cX7_sends 45 = .ok (.aload_n 0, 1) := by decide +kernel
theorem dX7_sends_46 : decode cX7_sends 46 = .ok (.getfield 17, 3) := by decide +kernel
theorem dX7_sends_49 : decode cX7_sends 49 = .ok (.iconst 2, 1) := by decide +kernel
theorem dX7_sends_50 : decode cX7_sends 50 = .ok (.dup2, 1) := by decide +kernel
theorem dX7_sends_51 : decode cX7_sends 51 = .ok (.iaload, 1) := by decide +kernel
theorem dX7_sends_52 : decode cX7_sends 52 = .ok (.iconst 1, 1) := by decide +kernel
theorem dX7_sends_53 : decode cX7_sends 53 = .ok (.iadd, 1) := by decide +kernel
theorem dX7_sends_54 : decode cX7_sends 54 = .ok (.iastore, 1) := by decide +kernel
theorem dX7_sends_55 : decode cX7_sends 55 = .ok (.aload_n 0, 1) := by decide +kernel
theorem dX7_sends_56 : decode cX7_sends 56 = .ok (.bipush 6, 2) := by decide +kernel
theorem dX7_sends_58 : decode cX7_sends 58 = .ok (.iload 8, 2) := by decide +kernel
theorem dX7_sends_60 : decode cX7_sends 60 = .ok (.iload_n 1, 1) := by decide +kernel
theorem dX7_sends_61 : decode cX7_sends 61 = .ok (.invokevirtual 216, 3) := by decide +kernel
theorem dX7_sends_64 : decode cX7_sends 64 = .ok (.return_, 1) := by decide +kernel
theorem dX7_sends_65 : decode cX7_sends 65 = .ok (.aload_n 0, 1) := by decide +kernel
theorem dX7_sends_66 : decode cX7_sends 66 = .ok (.getfield 17, 3) := by decide +kernel
theorem dX7_sends_69 : decode cX7_sends 69 = .ok (.iconst 3, 1) := by decide +kernel
theorem dX7_sends_70 : decode cX7_sends 70 = .ok (.iaload, 1) := by decide +kernel
theorem dX7_sends_71 : decode cX7_sends 71 = .ok (.invokestatic 220, 3) := by decide +kernel
theorem dX7_sends_74 : decode cX7_sends 74 = .ok (.istore 9, 2) := by decide +kernel
theorem dX7_sends_76 : decode cX7_sends 76 = .ok (.aload_n 0, 1) := by decide +kernel
theorem dX7_sends_77 : decode cX7_sends 77 = .ok (.getfield 17, 3) := by decide +kernel
theorem dX7_sends_80 : decode cX7_sends 80 = .ok (.iload 9, 2) := by decide +kernel
theorem dX7_sends_82 : decode cX7_sends 82 = .ok (.iconst 0, 1) := by decide +kernel
theorem dX7_sends_83 : decode cX7_sends 83 = .ok (.iadd, 1) := by decide +kernel
theorem dX7_sends_84 : decode cX7_sends 84 = .ok (.iload_n 3, 1) := by decide +kernel
theorem dX7_sends_85 : decode cX7_sends 85 = .ok (.iastore, 1) := by decide +kernel
theorem dX7_sends_86 : decode cX7_sends 86 = .ok (.aload_n 0, 1) := by decide +kernel
theorem dX7_sends_87 : decode cX7_sends 87 = .ok (.getfield 17, 3) := by decide +kernel
theorem dX7_sends_90 : decode cX7_sends 90 = .ok (.iload 9, 2) := by decide +kernel
theorem dX7_sends_92 : decode cX7_sends 92 = .ok (.iconst 1, 1) := by decide +kernel
theorem dX7_sends_93 : decode cX7_sends 93 = .ok (.iadd, 1) := by decide +kernel
theorem dX7_sends_94 : decode cX7_sends 94 = .ok (.iload 4, 2) := by decide +kernel
theorem dX7_sends_96 : decode cX7_sends 96 = .ok (.iastore, 1) := by decide +kernel
theorem dX7_sends_97 : decode cX7_sends 97 = .ok (.aload_n 0, 1) := by decide +kernel
theorem dX7_sends_98 : decode cX7_sends 98 = .ok (.getfield 17, 3) := by decide +kernel
theorem dX7_sends_101 : decode cX7_sends 101 = .ok (.iload 9, 2) := by decide +kernel
theorem dX7_sends_103 : decode cX7_sends 103 = .ok (.iconst 2, 1) := by decide +kernel
theorem dX7_sends_104 : decode cX7_sends 104 = .ok (.iadd, 1) := by decide +kernel
theorem dX7_sends_105 : decode cX7_sends 105 = .ok (.iload 5, 2) := by decide +kernel
theorem dX7_sends_107 : decode cX7_sends 107 = .ok (.iastore, 1) := by decide +kernel
theorem dX7_sends_108 : decode cX7_sends 108 = .ok (.aload_n 0, 1) := by decide +kernel
theorem dX7_sends_109 : decode cX7_sends 109 = .ok (.getfield 17, 3) := by decide +kernel
theorem dX7_sends_112 : decode cX7_sends 112 = .ok (.iload 9, 2) := by decide +kernel
theorem dX7_sends_114 : decode cX7_sends 114 = .ok (.iconst 3, 1) := by decide +kernel
theorem dX7_sends_115 : decode cX7_sends 115 = .ok (.iadd, 1) := by decide +kernel
theorem dX7_sends_116 : decode cX7_sends 116 = .ok (.iload 6, 2) := by decide +kernel
theorem dX7_sends_118 : decode cX7_sends 118 = .ok (.iastore, 1) := by decide +kernel
theorem dX7_sends_119 : decode cX7_sends 119 = .ok (.aload_n 0, 1) := by decide +kernel
theorem dX7_sends_120 : decode cX7_sends 120 = .ok (.getfield 17, 3) := by decide +kernel
theorem dX7_sends_123 : decode cX7_sends 123 = .ok (.iload 9, 2) := by decide +kernel
theorem dX7_sends_125 : decode cX7_sends 125 = .ok (.iconst 4, 1) := by decide +kernel
theorem dX7_sends_126 : decode cX7_sends 126 = .ok (.iadd, 1) := by decide +kernel
theorem dX7_sends_127 : decode cX7_sends 127 = .ok (.iload_n 2, 1) := by decide +kernel
theorem dX7_sends_128 : decode cX7_sends 128 = .ok (.iastore, 1) := by decide +kernel
theorem dX7_sends_129 : decode cX7_sends 129 = .ok (.aload_n 0, 1) := by decide +kernel
theorem dX7_sends_130 : decode cX7_sends 130 = .ok (.getfield 17, 3) := by decide +kernel
theorem dX7_sends_133 : decode cX7_sends 133 = .ok (.iload 9, 2) := by decide +kernel
theorem dX7_sends_135 : decode cX7_sends 135 = .ok (.iconst 5, 1) := by decide +kernel
theorem dX7_sends_136 : decode cX7_sends 136 = .ok (.iadd, 1) := by decide +kernel
theorem dX7_sends_137 : decode cX7_sends 137 = .ok (.iload 7, 2) := by decide +kernel
theorem dX7_sends_139 : decode cX7_sends 139 = .ok (.iastore, 1) := by decide +kernel
theorem dX7_sends_140 : decode cX7_sends 140 = .ok (.aload_n 0, 1) := by decide +kernel
theorem dX7_sends_141 : decode cX7_sends 141 = .ok (.getfield 17, 3) := by decide +kernel
theorem dX7_sends_144 : decode cX7_sends 144 = .ok (.iload 9, 2) := by decide +kernel
theorem dX7_sends_146 : decode cX7_sends 146 = .ok (.bipush 6, 2) := by decide +kernel
theorem dX7_sends_148 : decode cX7_sends 148 = .ok (.iadd, 1) := by decide +kernel
theorem dX7_sends_149 : decode cX7_sends 149 = .ok (.iload 8, 2) := by decide +kernel
theorem dX7_sends_151 : decode cX7_sends 151 = .ok (.iastore, 1) := by decide +kernel
theorem dX7_sends_152 : decode cX7_sends 152 = .ok (.aload_n 0, 1) := by decide +kernel
theorem dX7_sends_153 : decode cX7_sends 153 = .ok (.getfield 17, 3) := by decide +kernel
theorem dX7_sends_156 : decode cX7_sends 156 = .ok (.iload 9, 2) := by decide +kernel
theorem dX7_sends_158 : decode cX7_sends 158 = .ok (.bipush 7, 2) := by decide +kernel
theorem dX7_sends_160 : decode cX7_sends 160 = .ok (.iadd, 1) := by decide +kernel
theorem dX7_sends_161 : decode cX7_sends 161 = .ok (.iload_n 1, 1) := by decide +kernel
theorem dX7_sends_162 : decode cX7_sends 162 = .ok (.iastore, 1) := by decide +kernel
theorem dX7_sends_163 : decode cX7_sends 163 = .ok (.aload_n 0, 1) := by decide +kernel
theorem dX7_sends_164 : decode cX7_sends 164 = .ok (.getfield 17, 3) := by decide +kernel
theorem dX7_sends_167 : decode cX7_sends 167 = .ok (.iload 9, 2) := by decide +kernel
theorem dX7_sends_169 : decode cX7_sends 169 = .ok (.bipush 8, 2) := by decide +kernel
theorem dX7_sends_171 : decode cX7_sends 171 = .ok (.iadd, 1) := by decide +kernel
theorem dX7_sends_172 : decode cX7_sends 172 = .ok (.aload_n 0, 1) := by decide +kernel
theorem dX7_sends_173 : decode cX7_sends 173 = .ok (.getfield 17, 3) := by decide +kernel
theorem dX7_sends_176 : decode cX7_sends 176 = .ok (.iconst 0, 1) := by decide +kernel
theorem dX7_sends_177 : decode cX7_sends 177 = .ok (.iaload, 1) := by decide +kernel
theorem dX7_sends_178 : decode cX7_sends 178 = .ok (.iastore, 1) := by decide +kernel
theorem dX7_sends_179 : decode cX7_sends 179 = .ok (.aload_n 0, 1) := by decide +kernel
theorem dX7_sends_180 : decode cX7_sends 180 = .ok (.getfield 17, 3) := by decide +kernel
theorem dX7_sends_183 : decode cX7_sends 183 = .ok (.iconst 3, 1) := by decide +kernel
theorem dX7_sends_184 : decode cX7_sends 184 = .ok (.dup2, 1) := by decide +kernel
theorem dX7_sends_185 : decode cX7_sends 185 = .ok (.iaload, 1) := by decide +kernel
theorem dX7_sends_186 : decode cX7_sends 186 = .ok (.iconst 1, 1) := by decide +kernel
theorem dX7_sends_187 : decode cX7_sends 187 = .ok (.iadd, 1) := by decide +kernel
theorem dX7_sends_188 : decode cX7_sends 188 = .ok (.iastore, 1) := by decide +kernel
theorem dX7_sends_189 : decode cX7_sends 189 = .ok (.return_, 1) := by decide +kernel
theorem dX7_tells_0 : decode cX7_tells 0 = .ok (.iload_n 1, 1) := by decide +kernel
theorem dX7_tells_1 : decode cX7_tells 1 = .ok (.invokestatic 74, 3) := by decide +kernel
theorem dX7_tells_4 : decode cX7_tells 4 = .ok (.istore 4, 2) := by decide +kernel
theorem dX7_tells_6 : decode cX7_tells 6 = .ok (.aload_n 0, 1) := by decide +kernel
theorem dX7_tells_7 : decode cX7_tells 7 = .ok (.iload_n 2, 1) := by decide +kernel
theorem dX7_tells_8 : decode cX7_tells 8 = .ok (.aload_n 0, 1) := by decide +kernel
theorem dX7_tells_9 : decode cX7_tells 9 = .ok (.getfield 17, 3) := by decide +kernel
theorem dX7_tells_12 : decode cX7_tells 12 = .ok (.iload 4, 2) := by decide +kernel
theorem dX7_tells_14 : decode cX7_tells 14 = .ok (.iconst 0, 1) := by decide +kernel
theorem dX7_tells_15 : decode cX7_tells 15 = .ok (.iadd, 1) := by decide +kernel
theorem dX7_tells_16 : decode cX7_tells 16 = .ok (.iaload, 1) := by decide +kernel
theorem dX7_tells_17 : decode cX7_tells 17 = .ok (.aload_n 0, 1) := by decide +kernel
theorem dX7_tells_18 : decode cX7_tells 18 = .ok (.getfield 17, 3) := by decide +kernel
theorem dX7_tells_21 : decode cX7_tells 21 = .ok (.iload 4, 2) := by decide +kernel
theorem dX7_tells_23 : decode cX7_tells 23 = .ok (.iconst 1, 1) := by decide +kernel
theorem dX7_tells_24 : decode cX7_tells 24 = .ok (.iadd, 1) := by decide +kernel
theorem dX7_tells_25 : decode cX7_tells 25 = .ok (.iaload, 1) := by decide +kernel
theorem dX7_tells_26 : decode cX7_tells 26 = .ok (.aload_n 0, 1) := by decide +kernel
theorem dX7_tells_27 : decode cX7_tells 27 = .ok (.getfield 17, 3) := by decide +kernel
theorem dX7_tells_30 : decode cX7_tells 30 = .ok (.iload 4, 2) := by decide +kernel
theorem dX7_tells_32 : decode cX7_tells 32 = .ok (.iconst 2, 1) := by decide +kernel
theorem dX7_tells_33 : decode cX7_tells 33 = .ok (.iadd, 1) := by decide +kernel
theorem dX7_tells_34 : decode cX7_tells 34 = .ok (.iaload, 1) := by decide +kernel
theorem dX7_tells_35 : decode cX7_tells 35 = .ok (.aload_n 0, 1) := by decide +kernel
theorem dX7_tells_36 : decode cX7_tells 36 = .ok (.getfield 17, 3) := by decide +kernel
theorem dX7_tells_39 : decode cX7_tells 39 = .ok (.iload 4, 2) := by decide +kernel
theorem dX7_tells_41 : decode cX7_tells 41 = .ok (.iconst 3, 1) := by decide +kernel
theorem dX7_tells_42 : decode cX7_tells 42 = .ok (.iadd, 1) := by decide +kernel
theorem dX7_tells_43 : decode cX7_tells 43 = .ok (.iaload, 1) := by decide +kernel
theorem dX7_tells_44 : decode cX7_tells 44 = .ok (.aload_n 0, 1) := by decide +kernel
theorem dX7_tells_45 : decode cX7_tells 45 = .ok (.getfield 17, 3) := by decide +kernel
theorem dX7_tells_48 : decode cX7_tells 48 = .ok (.iload 4, 2) := by decide +kernel
theorem dX7_tells_50 : decode cX7_tells 50 = .ok (.iconst 4, 1) := by decide +kernel
theorem dX7_tells_51 : decode cX7_tells 51 = .ok (.iadd, 1) := by decide +kernel
theorem dX7_tells_52 : decode cX7_tells 52 = .ok (.iaload, 1) := by decide +kernel
theorem dX7_tells_53 : decode cX7_tells 53 = .ok (.iload_n 3, 1) := by decide +kernel
theorem dX7_tells_54 : decode cX7_tells 54 = .ok (.invokevirtual 223, 3) := by decide +kernel
theorem dX7_tells_57 : decode cX7_tells 57 = .ok (.return_, 1) := by decide +kernel
theorem dX7_probes_0 : decode cX7_probes 0 = .ok (.iload_n 1, 1) := by decide +kernel
theorem dX7_probes_1 : decode cX7_probes 1 = .ok (.invokestatic 74, 3) := by decide +kernel
theorem dX7_probes_4 : decode cX7_probes 4 = .ok (.istore_n 3, 1) := by decide +kernel
theorem dX7_probes_5 : decode cX7_probes 5 = .ok (.aload_n 0, 1) := by decide +kernel
theorem dX7_probes_6 : decode cX7_probes 6 = .ok (.getfield 17, 3) := by decide +kernel
theorem dX7_probes_9 : decode cX7_probes 9 = .ok (.iload_n 3, 1) := by decide +kernel
theorem dX7_probes_10 : decode cX7_probes 10 = .ok (.bipush 6, 2) := by decide +kernel
theorem dX7_probes_12 : decode cX7_probes 12 = .ok (.iadd, 1) := by decide +kernel
theorem dX7_probes_13 : decode cX7_probes 13 = .ok (.iconst 0, 1) := by decide +kernel
theorem dX7_probes_14 : decode cX7_probes 14 = .ok (.iastore, 1) := by decide +kernel
theorem dX7_probes_15 : decode cX7_probes 15 = .ok (.aload_n 0, 1) := by decide +kernel
theorem dX7_probes_16 : decode cX7_probes 16 = .ok (.getfield 17, 3) := by decide +kernel
theorem dX7_probes_19 : decode cX7_probes 19 = .ok (.iload_n 3, 1) := by decide +kernel
theorem dX7_probes_20 : decode cX7_probes 20 = .ok (.bipush 7, 2) := by decide +kernel
theorem dX7_probes_22 : decode cX7_probes 22 = .ok (.iadd, 1) := by decide +kernel
theorem dX7_probes_23 : decode cX7_probes 23 = .ok (.iconst 0, 1) := by decide +kernel
theorem dX7_probes_24 : decode cX7_probes 24 = .ok (.iastore, 1) := by decide +kernel
theorem dX7_probes_25 : decode cX7_probes 25 = .ok (.aload_n 0, 1) := by decide +kernel
theorem dX7_probes_26 : decode cX7_probes 26 = .ok (.getfield 17, 3) := by decide +kernel
theorem dX7_probes_29 : decode cX7_probes 29 = .ok (.iload_n 3, 1) := by decide +kernel
theorem dX7_probes_30 : decode cX7_probes 30 = .ok (.bipush 8, 2) := by decide +kernel
theorem dX7_probes_32 : decode cX7_probes 32 = .ok (.iadd, 1) := by decide +kernel
theorem dX7_probes_33 : decode cX7_probes 33 = .ok (.iload_n 2, 1) := by decide +kernel
theorem dX7_probes_34 : decode cX7_probes 34 = .ok (.iastore, 1) := by decide +kernel
theorem dX7_probes_35 : decode cX7_probes 35 = .ok (.return_, 1) := by decide +kernel
theorem dX7_isThere_0 : decode cX7_isThere 0 = .ok (.aload_n 0, 1) := by decide +kernel
theorem dX7_isThere_1 : decode cX7_isThere 1 = .ok (.getfield 17, 3) := by decide +kernel
theorem dX7_isThere_4 : decode cX7_isThere 4 = .ok (.iload_n 1, 1) := by decide +kernel
theorem dX7_isThere_5 : decode cX7_isThere 5 = .ok (.invokestatic 74, 3) := by decide +kernel
theorem dX7_isThere_8 : decode cX7_isThere 8 = .ok (.bipush 6, 2) := by decide +kernel
theorem dX7_isThere_10 : decode cX7_isThere 10 = .ok (.iadd, 1) := by decide +kernel
theorem dX7_isThere_11 : decode cX7_isThere 11 = .ok (.iaload, 1) := by decide +kernel
theorem dX7_isThere_12 : decode cX7_isThere 12 = .ok (.istore_n 2, 1) := by decide +kernel
theorem dX7_isThere_13 : decode cX7_isThere 13 = .ok (.iload_n 2, 1) := by decide +kernel
theorem dX7_isThere_14 : decode cX7_isThere 14 = .ok (.iconst 1, 1) := by decide +kernel
theorem dX7_isThere_15 : decode cX7_isThere 15 = .ok (.if_icmp .eq 8, 3) := by decide +kernel
theorem dX7_isThere_18 : decode cX7_isThere 18 = .ok (.iload_n 2, 1) := by decide +kernel
theorem dX7_isThere_19 : decode cX7_isThere 19 = .ok (.iconst 2, 1) := by decide +kernel
theorem dX7_isThere_20 : decode cX7_isThere 20 = .ok (.if_icmp .ne 7, 3) := by decide +kernel
theorem dX7_isThere_23 : decode cX7_isThere 23 = .ok (.iconst 1, 1) := by decide +kernel
theorem dX7_isThere_24 : decode cX7_isThere 24 = .ok (.goto 4, 3) := by decide +kernel
theorem dX7_isThere_27 : decode cX7_isThere 27 = .ok (.iconst 0, 1) := by decide +kernel
theorem dX7_isThere_28 : decode cX7_isThere 28 = .ok (.ireturn, 1) := by decide +kernel
theorem dX7_renames_0 : decode cX7_renames 0 = .ok (.iload_n 1, 1) := by decide +kernel
theorem dX7_renames_1 : decode cX7_renames 1 = .ok (.invokestatic 74, 3) := by decide +kernel
theorem dX7_renames_4 : decode cX7_renames 4 = .ok (.istore_n 2, 1) := by decide +kernel
theorem dX7_renames_5 : decode cX7_renames 5 = .ok (.iconst 1, 1) := by decide +kernel
theorem dX7_renames_6 : decode cX7_renames 6 = .ok (.istore_n 3, 1) := by decide +kernel
theorem dX7_renames_7 : decode cX7_renames 7 = .ok (.iload_n 3, 1) := by decide +kernel
theorem dX7_renames_8 : decode cX7_renames 8 = .ok (.ifCond .eq 80, 3) := by decide +kernel
theorem dX7_renames_11 : decode cX7_renames 11 = .ok (.aload_n 0, 1) := by decide +kernel
theorem dX7_renames_12 : decode cX7_renames 12 = .ok (.getfield 17, 3) := by decide +kernel
theorem dX7_renames_15 : decode cX7_renames 15 = .ok (.iload_n 2, 1) := by decide +kernel
theorem dX7_renames_16 : decode cX7_renames 16 = .ok (.iconst 3, 1) := by decide +kernel
theorem dX7_renames_17 : decode cX7_renames 17 = .ok (.iadd, 1) := by decide +kernel
theorem dX7_renames_18 : decode cX7_renames 18 = .ok (.aload_n 0, 1) := by decide +kernel
theorem dX7_renames_19 : decode cX7_renames 19 = .ok (.getfield 17, 3) := by decide +kernel
theorem dX7_renames_22 : decode cX7_renames 22 = .ok (.iload_n 2, 1) := by decide +kernel
theorem dX7_renames_23 : decode cX7_renames 23 = .ok (.iconst 3, 1) := by decide +kernel
theorem dX7_renames_24 : decode cX7_renames 24 = .ok (.iadd, 1) := by decide +kernel
theorem dX7_renames_25 : decode cX7_renames 25 = .ok (.iaload, 1) := by decide +kernel
theorem dX7_renames_26 : decode cX7_renames 26 = .ok (.ifCond .ne 7, 3) := by decide +kernel
theorem dX7_renames_29 : decode cX7_renames 29 = .ok (.iconst 2, 1) := by decide +kernel
theorem dX7_renames_30 : decode cX7_renames 30 = .ok (.goto 13, 3) := by decide +kernel
theorem dX7_renames_43 : decode cX7_renames 43 = .ok (.iastore, 1) := by decide +kernel
theorem dX7_renames_44 : decode cX7_renames 44 = .ok (.aload_n 0, 1) := by decide +kernel
theorem dX7_renames_45 : decode cX7_renames 45 = .ok (.getfield 17, 3) := by decide +kernel
theorem dX7_renames_48 : decode cX7_renames 48 = .ok (.aload_n 0, 1) := by decide +kernel
theorem dX7_renames_49 : decode cX7_renames 49 = .ok (.getfield 17, 3) := by decide +kernel
theorem dX7_renames_52 : decode cX7_renames 52 = .ok (.iload_n 2, 1) := by decide +kernel
theorem dX7_renames_53 : decode cX7_renames 53 = .ok (.iconst 0, 1) := by decide +kernel
theorem dX7_renames_54 : decode cX7_renames 54 = .ok (.iadd, 1) := by decide +kernel
theorem dX7_renames_55 : decode cX7_renames 55 = .ok (.iaload, 1) := by decide +kernel
theorem dX7_renames_56 : decode cX7_renames 56 = .ok (.aload_n 0, 1) := by decide +kernel
theorem dX7_renames_57 : decode cX7_renames 57 = .ok (.getfield 17, 3) := by decide +kernel
theorem dX7_renames_60 : decode cX7_renames 60 = .ok (.iload_n 2, 1) := by decide +kernel
theorem dX7_renames_61 : decode cX7_renames 61 = .ok (.iconst 1, 1) := by decide +kernel
theorem dX7_renames_62 : decode cX7_renames 62 = .ok (.iadd, 1) := by decide +kernel
theorem dX7_renames_63 : decode cX7_renames 63 = .ok (.iaload, 1) := by decide +kernel
theorem dX7_renames_64 : decode cX7_renames 64 = .ok (.aload_n 0, 1) := by decide +kernel
theorem dX7_renames_65 : decode cX7_renames 65 = .ok (.getfield 17, 3) := by decide +kernel
theorem dX7_renames_68 : decode cX7_renames 68 = .ok (.iload_n 2, 1) := by decide +kernel
theorem dX7_renames_69 : decode cX7_renames 69 = .ok (.iconst 2, 1) := by decide +kernel
theorem dX7_renames_70 : decode cX7_renames 70 = .ok (.iadd, 1) := by decide +kernel
theorem dX7_renames_71 : decode cX7_renames 71 = .ok (.iaload, 1) := by decide +kernel
theorem dX7_renames_72 : decode cX7_renames 72 = .ok (.aload_n 0, 1) := by decide +kernel
theorem dX7_renames_73 : decode cX7_renames 73 = .ok (.getfield 17, 3) := by decide +kernel
theorem dX7_renames_76 : decode cX7_renames 76 = .ok (.iload_n 2, 1) := by decide +kernel
theorem dX7_renames_77 : decode cX7_renames 77 = .ok (.iconst 3, 1) := by decide +kernel
theorem dX7_renames_78 : decode cX7_renames 78 = .ok (.iadd, 1) := by decide +kernel
theorem dX7_renames_79 : decode cX7_renames 79 = .ok (.iaload, 1) := by decide +kernel
theorem dX7_renames_80 : decode cX7_renames 80 = .ok (.iload_n 1, 1) := by decide +kernel
theorem dX7_renames_81 : decode cX7_renames 81 = .ok (.invokestatic 168, 3) := by decide +kernel
theorem dX7_renames_84 : decode cX7_renames 84 = .ok (.istore_n 3, 1) := by decide +kernel
theorem dX7_renames_85 : decode cX7_renames 85 = .ok (.goto (-78), 3) := by decide +kernel
theorem dX7_renames_88 : decode cX7_renames 88 = .ok (.aload_n 0, 1) := by decide +kernel
theorem dX7_renames_89 : decode cX7_renames 89 = .ok (.getfield 17, 3) := by decide +kernel
theorem dX7_renames_92 : decode cX7_renames 92 = .ok (.iload_n 2, 1) := by decide +kernel
theorem dX7_renames_93 : decode cX7_renames 93 = .ok (.bipush 9, 2) := by decide +kernel
theorem dX7_renames_95 : decode cX7_renames 95 = .ok (.iadd, 1) := by decide +kernel
theorem dX7_renames_96 : decode cX7_renames 96 = .ok (.dup2, 1) := by decide +kernel
theorem dX7_renames_97 : decode cX7_renames 97 = .ok (.iaload, 1) := by decide +kernel
theorem dX7_renames_98 : decode cX7_renames 98 = .ok (.iconst 1, 1) := by decide +kernel
theorem dX7_renames_99 : decode cX7_renames 99 = .ok (.iadd, 1) := by decide +kernel
theorem dX7_renames_100 : decode cX7_renames 100 = .ok (.iastore, 1) := by decide +kernel
theorem dX7_renames_101 : decode cX7_renames 101 = .ok (.aload_n 0, 1) := by decide +kernel
theorem dX7_renames_102 : decode cX7_renames 102 = .ok (.getfield 17, 3) := by decide +kernel
theorem dX7_renames_105 : decode cX7_renames 105 = .ok (.iconst 4, 1) := by decide +kernel
theorem dX7_renames_106 : decode cX7_renames 106 = .ok (.dup2, 1) := by decide +kernel
theorem dX7_renames_107 : decode cX7_renames 107 = .ok (.iaload, 1) := by decide +kernel
theorem dX7_renames_108 : decode cX7_renames 108 = .ok (.iconst 1, 1) := by decide +kernel
theorem dX7_renames_109 : decode cX7_renames 109 = .ok (.iadd, 1) := by decide +kernel
theorem dX7_renames_110 : decode cX7_renames 110 = .ok (.iastore, 1) := by decide +kernel
theorem dX7_renames_111 : decode cX7_renames 111 = .ok (.aload_n 0, 1) := by decide +kernel
theorem dX7_renames_112 : decode cX7_renames 112 = .ok (.iconst 0, 1) := by decide +kernel
theorem dX7_renames_113 : decode cX7_renames 113 = .ok (.iload_n 1, 1) := by decide +kernel
theorem dX7_renames_114 : decode cX7_renames 114 = .ok (.aload_n 0, 1) := by decide +kernel
theorem dX7_renames_115 : decode cX7_renames 115 = .ok (.getfield 17, 3) := by decide +kernel
theorem dX7_renames_118 : decode cX7_renames 118 = .ok (.iload_n 2, 1) := by decide +kernel
theorem dX7_renames_119 : decode cX7_renames 119 = .ok (.iconst 3, 1) := by decide +kernel
theorem dX7_renames_120 : decode cX7_renames 120 = .ok (.iadd, 1) := by decide +kernel
theorem dX7_renames_121 : decode cX7_renames 121 = .ok (.iaload, 1) := by decide +kernel
theorem dX7_renames_122 : decode cX7_renames 122 = .ok (.invokevirtual 216, 3) := by decide +kernel
theorem dX7_renames_125 : decode cX7_renames 125 = .ok (.return_, 1) := by decide +kernel
theorem dX7_isSame_0 : decode cX7_isSame 0 = .ok (.aload_n 0, 1) := by decide +kernel
theorem dX7_isSame_1 : decode cX7_isSame 1 = .ok (.getfield 17, 3) := by decide +kernel
theorem dX7_isSame_4 : decode cX7_isSame 4 = .ok (.iload_n 1, 1) := by decide +kernel
theorem dX7_isSame_5 : decode cX7_isSame 5 = .ok (.iaload, 1) := by decide +kernel
theorem dX7_isSame_6 : decode cX7_isSame 6 = .ok (.aload_n 0, 1) := by decide +kernel
theorem dX7_isSame_7 : decode cX7_isSame 7 = .ok (.getfield 17, 3) := by decide +kernel
theorem dX7_isSame_10 : decode cX7_isSame 10 = .ok (.iload_n 2, 1) := by decide +kernel
theorem dX7_isSame_11 : decode cX7_isSame 11 = .ok (.iaload, 1) := by decide +kernel
theorem dX7_isSame_12 : decode cX7_isSame 12 = .ok (.if_icmp .ne 45, 3) := by decide +kernel
theorem dX7_isSame_15 : decode cX7_isSame 15 = .ok (.aload_n 0, 1) := by decide +kernel
theorem dX7_isSame_16 : decode cX7_isSame 16 = .ok (.getfield 17, 3) := by decide +kernel
theorem dX7_isSame_19 : decode cX7_isSame 19 = .ok (.iload_n 1, 1) := by decide +kernel
theorem dX7_isSame_20 : decode cX7_isSame 20 = .ok (.iconst 1, 1) := by decide +kernel
theorem dX7_isSame_21 : decode cX7_isSame 21 = .ok (.iadd, 1) := by decide +kernel
theorem dX7_isSame_22 : decode cX7_isSame 22 = .ok (.iaload, 1) := by decide +kernel
theorem dX7_isSame_23 : decode cX7_isSame 23 = .ok (.aload_n 0, 1) := by decide +kernel
theorem dX7_isSame_24 : decode cX7_isSame 24 = .ok (.getfield 17, 3) := by decide +kernel
theorem dX7_isSame_27 : decode cX7_isSame 27 = .ok (.iload_n 2, 1) := by decide +kernel
theorem dX7_isSame_28 : decode cX7_isSame 28 = .ok (.iconst 1, 1) := by decide +kernel
theorem dX7_isSame_29 : decode cX7_isSame 29 = .ok (.iadd, 1) := by decide +kernel
theorem dX7_isSame_30 : decode cX7_isSame 30 = .ok (.iaload, 1) := by decide +kernel
theorem dX7_isSame_31 : decode cX7_isSame 31 = .ok (.if_icmp .ne 26, 3) := by decide +kernel
theorem dX7_isSame_34 : decode cX7_isSame 34 = .ok (.aload_n 0, 1) := by decide +kernel
theorem dX7_isSame_35 : decode cX7_isSame 35 = .ok (.getfield 17, 3) := by decide +kernel
theorem dX7_isSame_38 : decode cX7_isSame 38 = .ok (.iload_n 1, 1) := by decide +kernel
theorem dX7_isSame_39 : decode cX7_isSame 39 = .ok (.iconst 2, 1) := by decide +kernel
theorem dX7_isSame_40 : decode cX7_isSame 40 = .ok (.iadd, 1) := by decide +kernel
theorem dX7_isSame_41 : decode cX7_isSame 41 = .ok (.iaload, 1) := by decide +kernel
theorem dX7_isSame_42 : decode cX7_isSame 42 = .ok (.aload_n 0, 1) := by decide +kernel
theorem dX7_isSame_43 : decode cX7_isSame 43 = .ok (.getfield 17, 3) := by decide +kernel
theorem dX7_isSame_46 : decode cX7_isSame 46 = .ok (.iload_n 2, 1) := by decide +kernel
theorem dX7_isSame_47 : decode cX7_isSame 47 = .ok (.iconst 2, 1) := by decide +kernel
theorem dX7_isSame_48 : decode cX7_isSame 48 = .ok (.iadd, 1) := by decide +kernel
theorem dX7_isSame_49 : decode cX7_isSame 49 = .ok (.iaload, 1) := by decide +kernel
theorem dX7_isSame_50 : decode cX7_isSame 50 = .ok (.if_icmp .ne 7, 3) := by decide +kernel
theorem dX7_isSame_53 : decode cX7_isSame 53 = .ok (.iconst 1, 1) := by decide +kernel
theorem dX7_isSame_54 : decode cX7_isSame 54 = .ok (.goto 4, 3) := by decide +kernel
theorem dX7_isSame_57 : decode cX7_isSame 57 = .ok (.iconst 0, 1) := by decide +kernel
theorem dX7_isSame_58 : decode cX7_isSame 58 = .ok (.ireturn, 1) := by decide +kernel
theorem dX7_compares_0 : decode cX7_compares 0 = .ok (.aload_n 0, 1) := by decide +kernel
theorem dX7_compares_1 : decode cX7_compares 1 = .ok (.getfield 17, 3) := by decide +kernel
theorem dX7_compares_4 : decode cX7_compares 4 = .ok (.iload_n 1, 1) := by decide +kernel
theorem dX7_compares_5 : decode cX7_compares 5 = .ok (.iconst 4, 1) := by decide +kernel
theorem dX7_compares_6 : decode cX7_compares 6 = .ok (.iadd, 1) := by decide +kernel
theorem dX7_compares_7 : decode cX7_compares 7 = .ok (.iaload, 1) := by decide +kernel
theorem dX7_compares_8 : decode cX7_compares 8 = .ok (.aload_n 0, 1) := by decide +kernel
theorem dX7_compares_9 : decode cX7_compares 9 = .ok (.getfield 17, 3) := by decide +kernel
theorem dX7_compares_12 : decode cX7_compares 12 = .ok (.iload_n 2, 1) := by decide +kernel
theorem dX7_compares_13 : decode cX7_compares 13 = .ok (.iconst 3, 1) := by decide +kernel
theorem dX7_compares_14 : decode cX7_compares 14 = .ok (.iadd, 1) := by decide +kernel
theorem dX7_compares_15 : decode cX7_compares 15 = .ok (.iaload, 1) := by decide +kernel
theorem dX7_compares_16 : decode cX7_compares 16 = .ok (.if_icmp .eq 23, 3) := by decide +kernel
theorem dX7_compares_19 : decode cX7_compares 19 = .ok (.aload_n 0, 1) := by decide +kernel
theorem dX7_compares_20 : decode cX7_compares 20 = .ok (.getfield 17, 3) := by decide +kernel
theorem dX7_compares_23 : decode cX7_compares 23 = .ok (.iload_n 1, 1) := by decide +kernel
theorem dX7_compares_24 : decode cX7_compares 24 = .ok (.iconst 4, 1) := by decide +kernel
theorem dX7_compares_25 : decode cX7_compares 25 = .ok (.iadd, 1) := by decide +kernel
theorem dX7_compares_26 : decode cX7_compares 26 = .ok (.iaload, 1) := by decide +kernel
theorem dX7_compares_27 : decode cX7_compares 27 = .ok (.aload_n 0, 1) := by decide +kernel
theorem dX7_compares_28 : decode cX7_compares 28 = .ok (.getfield 17, 3) := by decide +kernel
theorem dX7_compares_31 : decode cX7_compares 31 = .ok (.iload_n 2, 1) := by decide +kernel
theorem dX7_compares_32 : decode cX7_compares 32 = .ok (.iconst 3, 1) := by decide +kernel
theorem dX7_compares_33 : decode cX7_compares 33 = .ok (.iadd, 1) := by decide +kernel
theorem dX7_compares_34 : decode cX7_compares 34 = .ok (.iaload, 1) := by decide +kernel
theorem dX7_compares_35 : decode cX7_compares 35 = .ok (.isub, 1) := by decide +kernel
theorem dX7_compares_36 : decode cX7_compares 36 = .ok (.goto 20, 3) := by decide +kernel
theorem dX7_compares_56 : decode cX7_compares 56 = .ok (.ireturn, 1) := by decide +kernel
theorem dX7_recordOf_0 : decode cX7_recordOf 0 = .ok (.iconst 0, 1) := by decide +kernel
theorem dX7_recordOf_1 : decode cX7_recordOf 1 = .ok (.istore_n 3, 1) := by decide +kernel
theorem dX7_recordOf_2 : decode cX7_recordOf 2 = .ok (.iload_n 3, 1) := by decide +kernel
theorem dX7_recordOf_3 : decode cX7_recordOf 3 = .ok (.aload_n 0, 1) := by decide +kernel
theorem dX7_recordOf_4 : decode cX7_recordOf 4 = .ok (.getfield 17, 3) := by decide +kernel
theorem dX7_recordOf_7 : decode cX7_recordOf 7 = .ok (.iload_n 1, 1) := by decide +kernel
theorem dX7_recordOf_8 : decode cX7_recordOf 8 = .ok (.invokestatic 78, 3) := by decide +kernel
theorem dX7_recordOf_11 : decode cX7_recordOf 11 = .ok (.iconst 3, 1) := by decide +kernel
theorem dX7_recordOf_12 : decode cX7_recordOf 12 = .ok (.iadd, 1) := by decide +kernel
theorem dX7_recordOf_13 : decode cX7_recordOf 13 = .ok (.iaload, 1) := by decide +kernel
theorem dX7_recordOf_14 : decode cX7_recordOf 14 = .ok (.if_icmp .ge 24, 3) := by decide +kernel
theorem dX7_recordOf_17 : decode cX7_recordOf 17 = .ok (.aload_n 0, 1) := by decide +kernel
theorem dX7_recordOf_18 : decode cX7_recordOf 18 = .ok (.iload_n 1, 1) := by decide +kernel
theorem dX7_recordOf_19 : decode cX7_recordOf 19 = .ok (.iload_n 3, 1) := by decide +kernel
theorem dX7_recordOf_20 : decode cX7_recordOf 20 = .ok (.invokestatic 227, 3) := by decide +kernel
theorem dX7_recordOf_23 : decode cX7_recordOf 23 = .ok (.iload_n 2, 1) := by decide +kernel
theorem dX7_recordOf_24 : decode cX7_recordOf 24 = .ok (.invokevirtual 230, 3) := by decide +kernel
theorem dX7_recordOf_27 : decode cX7_recordOf 27 = .ok (.ifCond .eq 5, 3) := by decide +kernel
theorem dX7_recordOf_30 : decode cX7_recordOf 30 = .ok (.iload_n 3, 1) := by decide +kernel
theorem dX7_recordOf_31 : decode cX7_recordOf 31 = .ok (.ireturn, 1) := by decide +kernel
theorem dX7_recordOf_32 : decode cX7_recordOf 32 = .ok (.iinc 3 1, 3) := by decide +kernel
theorem dX7_recordOf_35 : decode cX7_recordOf 35 = .ok (.goto (-33), 3) := by decide +kernel
theorem dX7_recordOf_38 : decode cX7_recordOf 38 = .ok (.iconst (-1), 1) := by decide +kernel
theorem dX7_recordOf_39 : decode cX7_recordOf 39 = .ok (.ireturn, 1) := by decide +kernel
theorem dX7_caches_0 : decode cX7_caches 0 = .ok (.aload_n 0, 1) := by decide +kernel
theorem dX7_caches_1 : decode cX7_caches 1 = .ok (.iload_n 1, 1) := by decide +kernel
theorem dX7_caches_2 : decode cX7_caches 2 = .ok (.iload_n 2, 1) := by decide +kernel
theorem dX7_caches_3 : decode cX7_caches 3 = .ok (.invokevirtual 234, 3) := by decide +kernel
theorem dX7_caches_6 : decode cX7_caches 6 = .ok (.istore_n 3, 1) := by decide +kernel
theorem dX7_caches_7 : decode cX7_caches 7 = .ok (.aload_n 0, 1) := by decide +kernel
theorem dX7_caches_8 : decode cX7_caches 8 = .ok (.getfield 17, 3) := by decide +kernel
theorem dX7_caches_11 : decode cX7_caches 11 = .ok (.iload_n 2, 1) := by decide +kernel
theorem dX7_caches_12 : decode cX7_caches 12 = .ok (.iconst 5, 1) := by decide +kernel
theorem dX7_caches_13 : decode cX7_caches 13 = .ok (.iadd, 1) := by decide +kernel
theorem dX7_caches_14 : decode cX7_caches 14 = .ok (.iaload, 1) := by decide +kernel
theorem dX7_caches_15 : decode cX7_caches 15 = .ok (.ifCond .ne 120, 3) := by decide +kernel
theorem dX7_caches_18 : decode cX7_caches 18 = .ok (.iload_n 3, 1) := by decide +kernel
theorem dX7_caches_19 : decode cX7_caches 19 = .ok (.ifCond .ge 7, 3) := by decide +kernel
theorem dX7_caches_22 : decode cX7_caches 22 = .ok (.iconst 0, 1) := by decide +kernel
theorem dX7_caches_23 : decode cX7_caches 23 = .ok (.goto 8, 3) := by decide +kernel
theorem dX7_caches_135 : decode cX7_caches 135 = .ok (.iload_n 3, 1) := by decide +kernel
theorem dX7_caches_136 : decode cX7_caches 136 = .ok (.ifCond .ge 113, 3) := by decide +kernel
theorem dX7_caches_139 : decode cX7_caches 139 = .ok (.aload_n 0, 1) := by decide +kernel
theorem dX7_caches_140 : decode cX7_caches 140 = .ok (.getfield 17, 3) := by decide +kernel
theorem dX7_caches_143 : decode cX7_caches 143 = .ok (.iload_n 1, 1) := by decide +kernel
theorem dX7_caches_144 : decode cX7_caches 144 = .ok (.invokestatic 78, 3) := by decide +kernel
theorem dX7_caches_147 : decode cX7_caches 147 = .ok (.iconst 3, 1) := by decide +kernel
theorem dX7_caches_148 : decode cX7_caches 148 = .ok (.iadd, 1) := by decide +kernel
theorem dX7_caches_149 : decode cX7_caches 149 = .ok (.iaload, 1) := by decide +kernel
theorem dX7_caches_150 : decode cX7_caches 150 = .ok (.bipush 16, 2) := by decide +kernel
theorem dX7_caches_152 : decode cX7_caches 152 = .ok (.if_icmp .ne 97, 3) := by decide +kernel
theorem dX7_caches_155 : decode cX7_caches 155 = .ok (.iconst 0, 1) := by decide +kernel
theorem dX7_caches_156 : decode cX7_caches 156 = .ok (.istore 4, 2) := by decide +kernel
theorem dX7_caches_158 : decode cX7_caches 158 = .ok (.iconst 1, 1) := by decide +kernel
theorem dX7_caches_159 : decode cX7_caches 159 = .ok (.istore 5, 2) := by decide +kernel
theorem dX7_caches_249 : decode cX7_caches 249 = .ok (.iload_n 3, 1) := by decide +kernel
theorem dX7_caches_250 : decode cX7_caches 250 = .ok (.ifCond .ge 30, 3) := by decide +kernel
theorem dX7_caches_253 : decode cX7_caches 253 = .ok (.aload_n 0, 1) := by decide +kernel
theorem dX7_caches_254 : decode cX7_caches 254 = .ok (.getfield 17, 3) := by decide +kernel
theorem dX7_caches_257 : decode cX7_caches 257 = .ok (.iload_n 1, 1) := by decide +kernel
theorem dX7_caches_258 : decode cX7_caches 258 = .ok (.invokestatic 78, 3) := by decide +kernel
theorem dX7_caches_261 : decode cX7_caches 261 = .ok (.iconst 3, 1) := by decide +kernel
theorem dX7_caches_262 : decode cX7_caches 262 = .ok (.iadd, 1) := by decide +kernel
theorem dX7_caches_263 : decode cX7_caches 263 = .ok (.iaload, 1) := by decide +kernel
theorem dX7_caches_264 : decode cX7_caches 264 = .ok (.istore_n 3, 1) := by decide +kernel
theorem dX7_caches_265 : decode cX7_caches 265 = .ok (.aload_n 0, 1) := by decide +kernel
theorem dX7_caches_266 : decode cX7_caches 266 = .ok (.getfield 17, 3) := by decide +kernel
theorem dX7_caches_269 : decode cX7_caches 269 = .ok (.iload_n 1, 1) := by decide +kernel
theorem dX7_caches_270 : decode cX7_caches 270 = .ok (.invokestatic 78, 3) := by decide +kernel
theorem dX7_caches_273 : decode cX7_caches 273 = .ok (.iconst 3, 1) := by decide +kernel
theorem dX7_caches_274 : decode cX7_caches 274 = .ok (.iadd, 1) := by decide +kernel
theorem dX7_caches_275 : decode cX7_caches 275 = .ok (.dup2, 1) := by decide +kernel
theorem dX7_caches_276 : decode cX7_caches 276 = .ok (.iaload, 1) := by decide +kernel
theorem dX7_caches_277 : decode cX7_caches 277 = .ok (.iconst 1, 1) := by decide +kernel
theorem dX7_caches_278 : decode cX7_caches 278 = .ok (.iadd, 1) := by decide +kernel
theorem dX7_caches_279 : decode cX7_caches 279 = .ok (.iastore, 1) := by decide +kernel
theorem dX7_caches_280 : decode cX7_caches 280 = .ok (.iload_n 1, 1) := by decide +kernel
theorem dX7_caches_281 : decode cX7_caches 281 = .ok (.iload_n 3, 1) := by decide +kernel
theorem dX7_caches_282 : decode cX7_caches 282 = .ok (.invokestatic 227, 3) := by decide +kernel
theorem dX7_caches_285 : decode cX7_caches 285 = .ok (.istore 4, 2) := by decide +kernel
theorem dX7_caches_287 : decode cX7_caches 287 = .ok (.iconst 0, 1) := by decide +kernel
theorem dX7_caches_288 : decode cX7_caches 288 = .ok (.istore 5, 2) := by decide +kernel
theorem dX7_caches_290 : decode cX7_caches 290 = .ok (.iload 5, 2) := by decide +kernel
theorem dX7_caches_292 : decode cX7_caches 292 = .ok (.iconst 5, 1) := by decide +kernel
theorem dX7_caches_293 : decode cX7_caches 293 = .ok (.if_icmp .gt 28, 3) := by decide +kernel
theorem dX7_caches_296 : decode cX7_caches 296 = .ok (.aload_n 0, 1) := by decide +kernel
theorem dX7_caches_297 : decode cX7_caches 297 = .ok (.getfield 17, 3) := by decide +kernel
theorem dX7_caches_300 : decode cX7_caches 300 = .ok (.iload 4, 2) := by decide +kernel
theorem dX7_caches_302 : decode cX7_caches 302 = .ok (.iload 5, 2) := by decide +kernel
theorem dX7_caches_304 : decode cX7_caches 304 = .ok (.iadd, 1) := by decide +kernel
theorem dX7_caches_305 : decode cX7_caches 305 = .ok (.aload_n 0, 1) := by decide +kernel
theorem dX7_caches_306 : decode cX7_caches 306 = .ok (.getfield 17, 3) := by decide +kernel
theorem dX7_caches_309 : decode cX7_caches 309 = .ok (.iload_n 2, 1) := by decide +kernel
theorem dX7_caches_310 : decode cX7_caches 310 = .ok (.iload 5, 2) := by decide +kernel
theorem dX7_caches_312 : decode cX7_caches 312 = .ok (.iadd, 1) := by decide +kernel
theorem dX7_caches_313 : decode cX7_caches 313 = .ok (.iaload, 1) := by decide +kernel
theorem dX7_caches_314 : decode cX7_caches 314 = .ok (.iastore, 1) := by decide +kernel
theorem dX7_caches_315 : decode cX7_caches 315 = .ok (.iinc 5 1, 3) := by decide +kernel
theorem dX7_caches_318 : decode cX7_caches 318 = .ok (.goto (-28), 3) := by decide +kernel
theorem dX7_caches_321 : decode cX7_caches 321 = .ok (.aload_n 0, 1) := by decide +kernel
theorem dX7_caches_322 : decode cX7_caches 322 = .ok (.getfield 17, 3) := by decide +kernel
theorem dX7_caches_325 : decode cX7_caches 325 = .ok (.iload 4, 2) := by decide +kernel
theorem dX7_caches_327 : decode cX7_caches 327 = .ok (.bipush 6, 2) := by decide +kernel
theorem dX7_caches_329 : decode cX7_caches 329 = .ok (.iadd, 1) := by decide +kernel
theorem dX7_caches_330 : decode cX7_caches 330 = .ok (.aload_n 0, 1) := by decide +kernel
theorem dX7_caches_331 : decode cX7_caches 331 = .ok (.getfield 17, 3) := by decide +kernel
theorem dX7_caches_334 : decode cX7_caches 334 = .ok (.iconst 0, 1) := by decide +kernel
theorem dX7_caches_335 : decode cX7_caches 335 = .ok (.iaload, 1) := by decide +kernel
theorem dX7_caches_336 : decode cX7_caches 336 = .ok (.iastore, 1) := by decide +kernel
theorem dX7_caches_337 : decode cX7_caches 337 = .ok (.aload_n 0, 1) := by decide +kernel
theorem dX7_caches_338 : decode cX7_caches 338 = .ok (.getfield 17, 3) := by decide +kernel
theorem dX7_caches_341 : decode cX7_caches 341 = .ok (.iload 4, 2) := by decide +kernel
theorem dX7_caches_343 : decode cX7_caches 343 = .ok (.bipush 7, 2) := by decide +kernel
theorem dX7_caches_345 : decode cX7_caches 345 = .ok (.iadd, 1) := by decide +kernel
theorem dX7_caches_346 : decode cX7_caches 346 = .ok (.iconst 0, 1) := by decide +kernel
theorem dX7_caches_347 : decode cX7_caches 347 = .ok (.iastore, 1) := by decide +kernel
theorem dX7_caches_348 : decode cX7_caches 348 = .ok (.return_, 1) := by decide +kernel
theorem dX7_knownAt_0 : decode cX7_knownAt 0 = .ok (.sipush 1187, 3) := by decide +kernel
theorem dX7_knownAt_3 : decode cX7_knownAt 3 = .ok (.bipush 65, 2) := by decide +kernel
theorem dX7_knownAt_5 : decode cX7_knownAt 5 = .ok (.iconst 4, 1) := by decide +kernel
theorem dX7_knownAt_6 : decode cX7_knownAt 6 = .ok (.iload_n 0, 1) := by decide +kernel
theorem dX7_knownAt_7 : decode cX7_knownAt 7 = .ok (.imul, 1) := by decide +kernel
theorem dX7_knownAt_8 : decode cX7_knownAt 8 = .ok (.iload_n 1, 1) := by decide +kernel
theorem dX7_knownAt_9 : decode cX7_knownAt 9 = .ok (.iadd, 1) := by decide +kernel
theorem dX7_knownAt_10 : decode cX7_knownAt 10 = .ok (.imul, 1) := by decide +kernel
theorem dX7_knownAt_11 : decode cX7_knownAt 11 = .ok (.iadd, 1) := by decide +kernel
theorem dX7_knownAt_12 : decode cX7_knownAt 12 = .ok (.ireturn, 1) := by decide +kernel
theorem dX7_isAnswered_0 : decode cX7_isAnswered 0 = .ok (.iload_n 1, 1) := by decide +kernel
theorem dX7_isAnswered_1 : decode cX7_isAnswered 1 = .ok (.invokestatic 74, 3) := by decide +kernel
theorem dX7_isAnswered_4 : decode cX7_isAnswered 4 = .ok (.istore_n 3, 1) := by decide +kernel
theorem dX7_isAnswered_5 : decode cX7_isAnswered 5 = .ok (.aload_n 0, 1) := by decide +kernel
theorem dX7_isAnswered_6 : decode cX7_isAnswered 6 = .ok (.getfield 17, 3) := by decide +kernel
theorem dX7_isAnswered_9 : decode cX7_isAnswered 9 = .ok (.iload_n 2, 1) := by decide +kernel
theorem dX7_isAnswered_10 : decode cX7_isAnswered 10 = .ok (.iconst 4, 1) := by decide +kernel
theorem dX7_isAnswered_11 : decode cX7_isAnswered 11 = .ok (.iadd, 1) := by decide +kernel
theorem dX7_isAnswered_12 : decode cX7_isAnswered 12 = .ok (.iaload, 1) := by decide +kernel
theorem dX7_isAnswered_13 : decode cX7_isAnswered 13 = .ok (.aload_n 0, 1) := by decide +kernel
theorem dX7_isAnswered_14 : decode cX7_isAnswered 14 = .ok (.getfield 17, 3) := by decide +kernel
theorem dX7_isAnswered_17 : decode cX7_isAnswered 17 = .ok (.iload_n 2, 1) := by decide +kernel
theorem dX7_isAnswered_18 : decode cX7_isAnswered 18 = .ok (.iconst 0, 1) := by decide +kernel
theorem dX7_isAnswered_19 : decode cX7_isAnswered 19 = .ok (.iadd, 1) := by decide +kernel
theorem dX7_isAnswered_20 : decode cX7_isAnswered 20 = .ok (.iaload, 1) := by decide +kernel
theorem dX7_isAnswered_21 : decode cX7_isAnswered 21 = .ok (.invokestatic 240, 3) := by decide +kernel
theorem dX7_isAnswered_24 : decode cX7_isAnswered 24 = .ok (.istore 4, 2) := by decide +kernel
theorem dX7_isAnswered_26 : decode cX7_isAnswered 26 = .ok (.iconst 0, 1) := by decide +kernel
theorem dX7_isAnswered_27 : decode cX7_isAnswered 27 = .ok (.istore 5, 2) := by decide +kernel
theorem dX7_isAnswered_29 : decode cX7_isAnswered 29 = .ok (.iload 5, 2) := by decide +kernel
theorem dX7_isAnswered_31 : decode cX7_isAnswered 31 = .ok (.aload_n 0, 1) := by decide +kernel
theorem dX7_isAnswered_32 : decode cX7_isAnswered 32 = .ok (.getfield 17, 3) := by decide +kernel
theorem dX7_isAnswered_35 : decode cX7_isAnswered 35 = .ok (.iload 4, 2) := by decide +kernel
theorem dX7_isAnswered_37 : decode cX7_isAnswered 37 = .ok (.iaload, 1) := by decide +kernel
theorem dX7_isAnswered_38 : decode cX7_isAnswered 38 = .ok (.if_icmp .ge 100, 3) := by decide +kernel
theorem dX7_isAnswered_41 : decode cX7_isAnswered 41 = .ok (.iload 4, 2) := by decide +kernel
theorem dX7_isAnswered_43 : decode cX7_isAnswered 43 = .ok (.iconst 1, 1) := by decide +kernel
theorem dX7_isAnswered_44 : decode cX7_isAnswered 44 = .ok (.iadd, 1) := by decide +kernel
theorem dX7_isAnswered_45 : decode cX7_isAnswered 45 = .ok (.iconst 4, 1) := by decide +kernel
theorem dX7_isAnswered_46 : decode cX7_isAnswered 46 = .ok (.iload 5, 2) := by decide +kernel
theorem dX7_isAnswered_48 : decode cX7_isAnswered 48 = .ok (.imul, 1) := by decide +kernel
theorem dX7_isAnswered_49 : decode cX7_isAnswered 49 = .ok (.iadd, 1) := by decide +kernel
theorem dX7_isAnswered_50 : decode cX7_isAnswered 50 = .ok (.istore 6, 2) := by decide +kernel
theorem dX7_isAnswered_52 : decode cX7_isAnswered 52 = .ok (.aload_n 0, 1) := by decide +kernel
theorem dX7_isAnswered_53 : decode cX7_isAnswered 53 = .ok (.getfield 17, 3) := by decide +kernel
theorem dX7_isAnswered_56 : decode cX7_isAnswered 56 = .ok (.iload 6, 2) := by decide +kernel
theorem dX7_isAnswered_58 : decode cX7_isAnswered 58 = .ok (.iaload, 1) := by decide +kernel
theorem dX7_isAnswered_59 : decode cX7_isAnswered 59 = .ok (.aload_n 0, 1) := by decide +kernel
theorem dX7_isAnswered_60 : decode cX7_isAnswered 60 = .ok (.getfield 17, 3) := by decide +kernel
theorem dX7_isAnswered_63 : decode cX7_isAnswered 63 = .ok (.iload_n 3, 1) := by decide +kernel
theorem dX7_isAnswered_64 : decode cX7_isAnswered 64 = .ok (.iconst 2, 1) := by decide +kernel
theorem dX7_isAnswered_65 : decode cX7_isAnswered 65 = .ok (.iadd, 1) := by decide +kernel
theorem dX7_isAnswered_66 : decode cX7_isAnswered 66 = .ok (.iaload, 1) := by decide +kernel
theorem dX7_isAnswered_67 : decode cX7_isAnswered 67 = .ok (.if_icmp .ne 65, 3) := by decide +kernel
theorem dX7_isAnswered_70 : decode cX7_isAnswered 70 = .ok (.aload_n 0, 1) := by decide +kernel
theorem dX7_isAnswered_71 : decode cX7_isAnswered 71 = .ok (.getfield 17, 3) := by decide +kernel
theorem dX7_isAnswered_74 : decode cX7_isAnswered 74 = .ok (.iload 6, 2) := by decide +kernel
theorem dX7_isAnswered_76 : decode cX7_isAnswered 76 = .ok (.iconst 1, 1) := by decide +kernel
theorem dX7_isAnswered_77 : decode cX7_isAnswered 77 = .ok (.iadd, 1) := by decide +kernel
theorem dX7_isAnswered_78 : decode cX7_isAnswered 78 = .ok (.iaload, 1) := by decide +kernel
theorem dX7_isAnswered_79 : decode cX7_isAnswered 79 = .ok (.aload_n 0, 1) := by decide +kernel
theorem dX7_isAnswered_80 : decode cX7_isAnswered 80 = .ok (.getfield 17, 3) := by decide +kernel
theorem dX7_isAnswered_83 : decode cX7_isAnswered 83 = .ok (.iload_n 3, 1) := by decide +kernel
theorem dX7_isAnswered_84 : decode cX7_isAnswered 84 = .ok (.iconst 3, 1) := by decide +kernel
theorem dX7_isAnswered_85 : decode cX7_isAnswered 85 = .ok (.iadd, 1) := by decide +kernel
theorem dX7_isAnswered_86 : decode cX7_isAnswered 86 = .ok (.iaload, 1) := by decide +kernel
theorem dX7_isAnswered_87 : decode cX7_isAnswered 87 = .ok (.if_icmp .ne 45, 3) := by decide +kernel
theorem dX7_isAnswered_90 : decode cX7_isAnswered 90 = .ok (.aload_n 0, 1) := by decide +kernel
theorem dX7_isAnswered_91 : decode cX7_isAnswered 91 = .ok (.getfield 17, 3) := by decide +kernel
theorem dX7_isAnswered_94 : decode cX7_isAnswered 94 = .ok (.iload 6, 2) := by decide +kernel
theorem dX7_isAnswered_96 : decode cX7_isAnswered 96 = .ok (.iconst 2, 1) := by decide +kernel
theorem dX7_isAnswered_97 : decode cX7_isAnswered 97 = .ok (.iadd, 1) := by decide +kernel
theorem dX7_isAnswered_98 : decode cX7_isAnswered 98 = .ok (.iaload, 1) := by decide +kernel
theorem dX7_isAnswered_99 : decode cX7_isAnswered 99 = .ok (.aload_n 0, 1) := by decide +kernel
theorem dX7_isAnswered_100 : decode cX7_isAnswered 100 = .ok (.getfield 17, 3) := by decide +kernel
theorem dX7_isAnswered_103 : decode cX7_isAnswered 103 = .ok (.iload_n 3, 1) := by decide +kernel
theorem dX7_isAnswered_104 : decode cX7_isAnswered 104 = .ok (.iconst 4, 1) := by decide +kernel
theorem dX7_isAnswered_105 : decode cX7_isAnswered 105 = .ok (.iadd, 1) := by decide +kernel
theorem dX7_isAnswered_106 : decode cX7_isAnswered 106 = .ok (.iaload, 1) := by decide +kernel
theorem dX7_isAnswered_107 : decode cX7_isAnswered 107 = .ok (.if_icmp .ne 25, 3) := by decide +kernel
theorem dX7_isAnswered_110 : decode cX7_isAnswered 110 = .ok (.aload_n 0, 1) := by decide +kernel
theorem dX7_isAnswered_111 : decode cX7_isAnswered 111 = .ok (.getfield 17, 3) := by decide +kernel
theorem dX7_isAnswered_114 : decode cX7_isAnswered 114 = .ok (.iload 6, 2) := by decide +kernel
theorem dX7_isAnswered_116 : decode cX7_isAnswered 116 = .ok (.iconst 3, 1) := by decide +kernel
theorem dX7_isAnswered_117 : decode cX7_isAnswered 117 = .ok (.iadd, 1) := by decide +kernel
theorem dX7_isAnswered_118 : decode cX7_isAnswered 118 = .ok (.iaload, 1) := by decide +kernel
theorem dX7_isAnswered_119 : decode cX7_isAnswered 119 = .ok (.aload_n 0, 1) := by decide +kernel
theorem dX7_isAnswered_120 : decode cX7_isAnswered 120 = .ok (.getfield 17, 3) := by decide +kernel
theorem dX7_isAnswered_123 : decode cX7_isAnswered 123 = .ok (.iload_n 3, 1) := by decide +kernel
theorem dX7_isAnswered_124 : decode cX7_isAnswered 124 = .ok (.iconst 0, 1) := by decide +kernel
theorem dX7_isAnswered_125 : decode cX7_isAnswered 125 = .ok (.iadd, 1) := by decide +kernel
theorem dX7_isAnswered_126 : decode cX7_isAnswered 126 = .ok (.iaload, 1) := by decide +kernel
theorem dX7_isAnswered_127 : decode cX7_isAnswered 127 = .ok (.if_icmp .ne 5, 3) := by decide +kernel
theorem dX7_isAnswered_130 : decode cX7_isAnswered 130 = .ok (.iconst 1, 1) := by decide +kernel
theorem dX7_isAnswered_131 : decode cX7_isAnswered 131 = .ok (.ireturn, 1) := by decide +kernel
theorem dX7_isAnswered_138 : decode cX7_isAnswered 138 = .ok (.iconst 0, 1) := by decide +kernel
theorem dX7_isAnswered_139 : decode cX7_isAnswered 139 = .ok (.ireturn, 1) := by decide +kernel
theorem dX7_meets_0 : decode cX7_meets 0 = .ok (.iload_n 1, 1) := by decide +kernel
theorem dX7_meets_1 : decode cX7_meets 1 = .ok (.invokestatic 74, 3) := by decide +kernel
theorem dX7_meets_4 : decode cX7_meets 4 = .ok (.istore_n 3, 1) := by decide +kernel
theorem dX7_meets_5 : decode cX7_meets 5 = .ok (.aload_n 0, 1) := by decide +kernel
theorem dX7_meets_6 : decode cX7_meets 6 = .ok (.getfield 17, 3) := by decide +kernel
theorem dX7_meets_9 : decode cX7_meets 9 = .ok (.iload_n 3, 1) := by decide +kernel
theorem dX7_meets_10 : decode cX7_meets 10 = .ok (.bipush 6, 2) := by decide +kernel
theorem dX7_meets_12 : decode cX7_meets 12 = .ok (.iadd, 1) := by decide +kernel
theorem dX7_meets_13 : decode cX7_meets 13 = .ok (.iaload, 1) := by decide +kernel
theorem dX7_meets_14 : decode cX7_meets 14 = .ok (.istore 4, 2) := by decide +kernel
theorem dX7_meets_16 : decode cX7_meets 16 = .ok (.aload_n 0, 1) := by decide +kernel
theorem dX7_meets_17 : decode cX7_meets 17 = .ok (.getfield 17, 3) := by decide +kernel
theorem dX7_meets_20 : decode cX7_meets 20 = .ok (.iload_n 2, 1) := by decide +kernel
theorem dX7_meets_21 : decode cX7_meets 21 = .ok (.bipush 7, 2) := by decide +kernel
theorem dX7_meets_23 : decode cX7_meets 23 = .ok (.iadd, 1) := by decide +kernel
theorem dX7_meets_24 : decode cX7_meets 24 = .ok (.iaload, 1) := by decide +kernel
theorem dX7_meets_25 : decode cX7_meets 25 = .ok (.ifCond .ne 97, 3) := by decide +kernel
theorem dX7_meets_28 : decode cX7_meets 28 = .ok (.aload_n 0, 1) := by decide +kernel
theorem dX7_meets_29 : decode cX7_meets 29 = .ok (.iload_n 1, 1) := by decide +kernel
theorem dX7_meets_30 : decode cX7_meets 30 = .ok (.invokevirtual 243, 3) := by decide +kernel
theorem dX7_meets_33 : decode cX7_meets 33 = .ok (.ifCond .eq 20, 3) := by decide +kernel
theorem dX7_meets_36 : decode cX7_meets 36 = .ok (.aload_n 0, 1) := by decide +kernel
theorem dX7_meets_37 : decode cX7_meets 37 = .ok (.iload_n 1, 1) := by decide +kernel
theorem dX7_meets_38 : decode cX7_meets 38 = .ok (.iconst 1, 1) := by decide +kernel
theorem dX7_meets_39 : decode cX7_meets 39 = .ok (.aload_n 0, 1) := by decide +kernel
theorem dX7_meets_40 : decode cX7_meets 40 = .ok (.getfield 17, 3) := by decide +kernel
theorem dX7_meets_43 : decode cX7_meets 43 = .ok (.iload_n 3, 1) := by decide +kernel
theorem dX7_meets_44 : decode cX7_meets 44 = .ok (.iconst 5, 1) := by decide +kernel
theorem dX7_meets_45 : decode cX7_meets 45 = .ok (.iadd, 1) := by decide +kernel
theorem dX7_meets_46 : decode cX7_meets 46 = .ok (.iaload, 1) := by decide +kernel
theorem dX7_meets_47 : decode cX7_meets 47 = .ok (.invokevirtual 246, 3) := by decide +kernel
theorem dX7_meets_50 : decode cX7_meets 50 = .ok (.goto 190, 3) := by decide +kernel
theorem dX7_meets_53 : decode cX7_meets 53 = .ok (.iload 4, 2) := by decide +kernel
theorem dX7_meets_55 : decode cX7_meets 55 = .ok (.ifCond .ne 185, 3) := by decide +kernel
theorem dX7_meets_58 : decode cX7_meets 58 = .ok (.aload_n 0, 1) := by decide +kernel
theorem dX7_meets_59 : decode cX7_meets 59 = .ok (.getfield 17, 3) := by decide +kernel
theorem dX7_meets_62 : decode cX7_meets 62 = .ok (.iload_n 3, 1) := by decide +kernel
theorem dX7_meets_63 : decode cX7_meets 63 = .ok (.bipush 7, 2) := by decide +kernel
theorem dX7_meets_65 : decode cX7_meets 65 = .ok (.iadd, 1) := by decide +kernel
theorem dX7_meets_66 : decode cX7_meets 66 = .ok (.iaload, 1) := by decide +kernel
theorem dX7_meets_67 : decode cX7_meets 67 = .ok (.ifCond .le 173, 3) := by decide +kernel
theorem dX7_meets_70 : decode cX7_meets 70 = .ok (.aload_n 0, 1) := by decide +kernel
theorem dX7_meets_71 : decode cX7_meets 71 = .ok (.iload_n 3, 1) := by decide +kernel
theorem dX7_meets_72 : decode cX7_meets 72 = .ok (.iload_n 2, 1) := by decide +kernel
theorem dX7_meets_73 : decode cX7_meets 73 = .ok (.invokevirtual 249, 3) := by decide +kernel
theorem dX7_meets_76 : decode cX7_meets 76 = .ok (.ifCond .ge 164, 3) := by decide +kernel
theorem dX7_meets_79 : decode cX7_meets 79 = .ok (.aload_n 0, 1) := by decide +kernel
theorem dX7_meets_80 : decode cX7_meets 80 = .ok (.iload_n 1, 1) := by decide +kernel
theorem dX7_meets_81 : decode cX7_meets 81 = .ok (.aload_n 0, 1) := by decide +kernel
theorem dX7_meets_82 : decode cX7_meets 82 = .ok (.getfield 17, 3) := by decide +kernel
theorem dX7_meets_85 : decode cX7_meets 85 = .ok (.iconst 0, 1) := by decide +kernel
theorem dX7_meets_86 : decode cX7_meets 86 = .ok (.iaload, 1) := by decide +kernel
theorem dX7_meets_87 : decode cX7_meets 87 = .ok (.iconst 4, 1) := by decide +kernel
theorem dX7_meets_88 : decode cX7_meets 88 = .ok (.iadd, 1) := by decide +kernel
theorem dX7_meets_89 : decode cX7_meets 89 = .ok (.invokevirtual 252, 3) := by decide +kernel
theorem dX7_meets_92 : decode cX7_meets 92 = .ok (.aload_n 0, 1) := by decide +kernel
theorem dX7_meets_93 : decode cX7_meets 93 = .ok (.getfield 17, 3) := by decide +kernel
theorem dX7_meets_96 : decode cX7_meets 96 = .ok (.iload_n 3, 1) := by decide +kernel
theorem dX7_meets_97 : decode cX7_meets 97 = .ok (.bipush 10, 2) := by decide +kernel
theorem dX7_meets_99 : decode cX7_meets 99 = .ok (.iadd, 1) := by decide +kernel
theorem dX7_meets_100 : decode cX7_meets 100 = .ok (.dup2, 1) := by decide +kernel
theorem dX7_meets_101 : decode cX7_meets 101 = .ok (.iaload, 1) := by decide +kernel
theorem dX7_meets_102 : decode cX7_meets 102 = .ok (.iconst 1, 1) := by decide +kernel
theorem dX7_meets_103 : decode cX7_meets 103 = .ok (.iadd, 1) := by decide +kernel
theorem dX7_meets_104 : decode cX7_meets 104 = .ok (.iastore, 1) := by decide +kernel
theorem dX7_meets_105 : decode cX7_meets 105 = .ok (.aload_n 0, 1) := by decide +kernel
theorem dX7_meets_106 : decode cX7_meets 106 = .ok (.iconst 1, 1) := by decide +kernel
theorem dX7_meets_107 : decode cX7_meets 107 = .ok (.iload_n 1, 1) := by decide +kernel
theorem dX7_meets_108 : decode cX7_meets 108 = .ok (.aload_n 0, 1) := by decide +kernel
theorem dX7_meets_109 : decode cX7_meets 109 = .ok (.getfield 17, 3) := by decide +kernel
theorem dX7_meets_112 : decode cX7_meets 112 = .ok (.iload_n 3, 1) := by decide +kernel
theorem dX7_meets_113 : decode cX7_meets 113 = .ok (.iconst 3, 1) := by decide +kernel
theorem dX7_meets_114 : decode cX7_meets 114 = .ok (.iadd, 1) := by decide +kernel
theorem dX7_meets_115 : decode cX7_meets 115 = .ok (.iaload, 1) := by decide +kernel
theorem dX7_meets_116 : decode cX7_meets 116 = .ok (.invokevirtual 216, 3) := by decide +kernel
theorem dX7_meets_119 : decode cX7_meets 119 = .ok (.goto 121, 3) := by decide +kernel
theorem dX7_meets_122 : decode cX7_meets 122 = .ok (.iload 4, 2) := by decide +kernel
theorem dX7_meets_124 : decode cX7_meets 124 = .ok (.ifCond .ne 24, 3) := by decide +kernel
theorem dX7_meets_127 : decode cX7_meets 127 = .ok (.aload_n 0, 1) := by decide +kernel
theorem dX7_meets_128 : decode cX7_meets 128 = .ok (.iload_n 1, 1) := by decide +kernel
theorem dX7_meets_129 : decode cX7_meets 129 = .ok (.invokevirtual 255, 3) := by decide +kernel
theorem dX7_meets_132 : decode cX7_meets 132 = .ok (.aload_n 0, 1) := by decide +kernel
theorem dX7_meets_133 : decode cX7_meets 133 = .ok (.iload_n 1, 1) := by decide +kernel
theorem dX7_meets_134 : decode cX7_meets 134 = .ok (.aload_n 0, 1) := by decide +kernel
theorem dX7_meets_135 : decode cX7_meets 135 = .ok (.getfield 17, 3) := by decide +kernel
theorem dX7_meets_138 : decode cX7_meets 138 = .ok (.iconst 0, 1) := by decide +kernel
theorem dX7_meets_139 : decode cX7_meets 139 = .ok (.iaload, 1) := by decide +kernel
theorem dX7_meets_140 : decode cX7_meets 140 = .ok (.iconst 1, 1) := by decide +kernel
theorem dX7_meets_141 : decode cX7_meets 141 = .ok (.iadd, 1) := by decide +kernel
theorem dX7_meets_142 : decode cX7_meets 142 = .ok (.invokevirtual 252, 3) := by decide +kernel
theorem dX7_meets_145 : decode cX7_meets 145 = .ok (.goto 95, 3) := by decide +kernel
theorem dX7_meets_240 : decode cX7_meets 240 = .ok (.return_, 1) := by decide +kernel
theorem dX7_comes_0 : decode cX7_comes 0 = .ok (.aload_n 0, 1) := by decide +kernel
theorem dX7_comes_1 : decode cX7_comes 1 = .ok (.getfield 17, 3) := by decide +kernel
theorem dX7_comes_4 : decode cX7_comes 4 = .ok (.iload_n 2, 1) := by decide +kernel
theorem dX7_comes_5 : decode cX7_comes 5 = .ok (.bipush 7, 2) := by decide +kernel
theorem dX7_comes_7 : decode cX7_comes 7 = .ok (.iadd, 1) := by decide +kernel
theorem dX7_comes_8 : decode cX7_comes 8 = .ok (.iaload, 1) := by decide +kernel
theorem dX7_comes_9 : decode cX7_comes 9 = .ok (.iconst 2, 1) := by decide +kernel
theorem dX7_comes_10 : decode cX7_comes 10 = .ok (.if_icmp .ne 7, 3) := by decide +kernel
theorem dX7_comes_13 : decode cX7_comes 13 = .ok (.iconst 1, 1) := by decide +kernel
theorem dX7_comes_14 : decode cX7_comes 14 = .ok (.goto 4, 3) := by decide +kernel
theorem dX7_comes_17 : decode cX7_comes 17 = .ok (.iconst 0, 1) := by decide +kernel
theorem dX7_comes_18 : decode cX7_comes 18 = .ok (.istore_n 3, 1) := by decide +kernel
theorem dX7_comes_19 : decode cX7_comes 19 = .ok (.aload_n 0, 1) := by decide +kernel
theorem dX7_comes_20 : decode cX7_comes 20 = .ok (.getfield 17, 3) := by decide +kernel
theorem dX7_comes_23 : decode cX7_comes 23 = .ok (.iload_n 2, 1) := by decide +kernel
theorem dX7_comes_24 : decode cX7_comes 24 = .ok (.bipush 7, 2) := by decide +kernel
theorem dX7_comes_26 : decode cX7_comes 26 = .ok (.iadd, 1) := by decide +kernel
theorem dX7_comes_27 : decode cX7_comes 27 = .ok (.iaload, 1) := by decide +kernel
theorem dX7_comes_28 : decode cX7_comes 28 = .ok (.iconst 1, 1) := by decide +kernel
theorem dX7_comes_29 : decode cX7_comes 29 = .ok (.if_icmp .ne 18, 3) := by decide +kernel
theorem dX7_comes_32 : decode cX7_comes 32 = .ok (.aload_n 0, 1) := by decide +kernel
theorem dX7_comes_33 : decode cX7_comes 33 = .ok (.getfield 17, 3) := by decide +kernel
theorem dX7_comes_36 : decode cX7_comes 36 = .ok (.iload_n 2, 1) := by decide +kernel
theorem dX7_comes_37 : decode cX7_comes 37 = .ok (.iconst 5, 1) := by decide +kernel
theorem dX7_comes_38 : decode cX7_comes 38 = .ok (.iadd, 1) := by decide +kernel
theorem dX7_comes_39 : decode cX7_comes 39 = .ok (.iaload, 1) := by decide +kernel
theorem dX7_comes_40 : decode cX7_comes 40 = .ok (.ifCond .ne 7, 3) := by decide +kernel
theorem dX7_comes_43 : decode cX7_comes 43 = .ok (.iconst 1, 1) := by decide +kernel
theorem dX7_comes_44 : decode cX7_comes 44 = .ok (.goto 4, 3) := by decide +kernel
theorem dX7_comes_47 : decode cX7_comes 47 = .ok (.iconst 0, 1) := by decide +kernel
theorem dX7_comes_48 : decode cX7_comes 48 = .ok (.istore 4, 2) := by decide +kernel
theorem dX7_comes_50 : decode cX7_comes 50 = .ok (.iconst 0, 1) := by decide +kernel
theorem dX7_comes_51 : decode cX7_comes 51 = .ok (.istore 5, 2) := by decide +kernel
theorem dX7_comes_53 : decode cX7_comes 53 = .ok (.iload 5, 2) := by decide +kernel
theorem dX7_comes_55 : decode cX7_comes 55 = .ok (.aload_n 0, 1) := by decide +kernel
theorem dX7_comes_56 : decode cX7_comes 56 = .ok (.getfield 17, 3) := by decide +kernel
theorem dX7_comes_59 : decode cX7_comes 59 = .ok (.bipush 8, 2) := by decide +kernel
theorem dX7_comes_61 : decode cX7_comes 61 = .ok (.iaload, 1) := by decide +kernel
theorem dX7_comes_62 : decode cX7_comes 62 = .ok (.if_icmp .ge 137, 3) := by decide +kernel
theorem dX7_comes_65 : decode cX7_comes 65 = .ok (.iload 4, 2) := by decide +kernel
theorem dX7_comes_67 : decode cX7_comes 67 = .ok (.ifCond .ne 132, 3) := by decide +kernel
theorem dX7_comes_70 : decode cX7_comes 70 = .ok (.iload 5, 2) := by decide +kernel
theorem dX7_comes_72 : decode cX7_comes 72 = .ok (.invokestatic 74, 3) := by decide +kernel
theorem dX7_comes_75 : decode cX7_comes 75 = .ok (.istore 6, 2) := by decide +kernel
theorem dX7_comes_77 : decode cX7_comes 77 = .ok (.aload_n 0, 1) := by decide +kernel
theorem dX7_comes_78 : decode cX7_comes 78 = .ok (.getfield 17, 3) := by decide +kernel
theorem dX7_comes_81 : decode cX7_comes 81 = .ok (.iload 6, 2) := by decide +kernel
theorem dX7_comes_83 : decode cX7_comes 83 = .ok (.iconst 0, 1) := by decide +kernel
theorem dX7_comes_84 : decode cX7_comes 84 = .ok (.iadd, 1) := by decide +kernel
theorem dX7_comes_85 : decode cX7_comes 85 = .ok (.iaload, 1) := by decide +kernel
theorem dX7_comes_86 : decode cX7_comes 86 = .ok (.iload_n 1, 1) := by decide +kernel
theorem dX7_comes_87 : decode cX7_comes 87 = .ok (.if_icmp .eq 6, 3) := by decide +kernel
theorem dX7_comes_90 : decode cX7_comes 90 = .ok (.goto 103, 3) := by decide +kernel
theorem dX7_comes_93 : decode cX7_comes 93 = .ok (.iload_n 3, 1) := by decide +kernel
theorem dX7_comes_94 : decode cX7_comes 94 = .ok (.ifCond .ne 25, 3) := by decide +kernel
theorem dX7_comes_97 : decode cX7_comes 97 = .ok (.aload_n 0, 1) := by decide +kernel
theorem dX7_comes_98 : decode cX7_comes 98 = .ok (.iload 6, 2) := by decide +kernel
theorem dX7_comes_100 : decode cX7_comes 100 = .ok (.iconst 1, 1) := by decide +kernel
theorem dX7_comes_101 : decode cX7_comes 101 = .ok (.iadd, 1) := by decide +kernel
theorem dX7_comes_102 : decode cX7_comes 102 = .ok (.iload_n 2, 1) := by decide +kernel
theorem dX7_comes_103 : decode cX7_comes 103 = .ok (.invokevirtual 230, 3) := by decide +kernel
theorem dX7_comes_106 : decode cX7_comes 106 = .ok (.ifCond .eq 87, 3) := by decide +kernel
theorem dX7_comes_109 : decode cX7_comes 109 = .ok (.aload_n 0, 1) := by decide +kernel
theorem dX7_comes_110 : decode cX7_comes 110 = .ok (.iload 5, 2) := by decide +kernel
theorem dX7_comes_112 : decode cX7_comes 112 = .ok (.iload_n 2, 1) := by decide +kernel
theorem dX7_comes_113 : decode cX7_comes 113 = .ok (.invokevirtual 258, 3) := by decide +kernel
theorem dX7_comes_116 : decode cX7_comes 116 = .ok (.goto 77, 3) := by decide +kernel
theorem dX7_comes_119 : decode cX7_comes 119 = .ok (.aload_n 0, 1) := by decide +kernel
theorem dX7_comes_120 : decode cX7_comes 120 = .ok (.getfield 17, 3) := by decide +kernel
theorem dX7_comes_123 : decode cX7_comes 123 = .ok (.iload 6, 2) := by decide +kernel
theorem dX7_comes_125 : decode cX7_comes 125 = .ok (.iconst 1, 1) := by decide +kernel
theorem dX7_comes_126 : decode cX7_comes 126 = .ok (.iadd, 1) := by decide +kernel
theorem dX7_comes_127 : decode cX7_comes 127 = .ok (.iaload, 1) := by decide +kernel
theorem dX7_comes_128 : decode cX7_comes 128 = .ok (.aload_n 0, 1) := by decide +kernel
theorem dX7_comes_129 : decode cX7_comes 129 = .ok (.getfield 17, 3) := by decide +kernel
theorem dX7_comes_132 : decode cX7_comes 132 = .ok (.iload_n 2, 1) := by decide +kernel
theorem dX7_comes_133 : decode cX7_comes 133 = .ok (.iconst 0, 1) := by decide +kernel
theorem dX7_comes_134 : decode cX7_comes 134 = .ok (.iadd, 1) := by decide +kernel
theorem dX7_comes_135 : decode cX7_comes 135 = .ok (.iaload, 1) := by decide +kernel
theorem dX7_comes_136 : decode cX7_comes 136 = .ok (.if_icmp .ne 57, 3) := by decide +kernel
theorem dX7_comes_139 : decode cX7_comes 139 = .ok (.aload_n 0, 1) := by decide +kernel
theorem dX7_comes_140 : decode cX7_comes 140 = .ok (.iload 5, 2) := by decide +kernel
theorem dX7_comes_142 : decode cX7_comes 142 = .ok (.invokevirtual 243, 3) := by decide +kernel
theorem dX7_comes_145 : decode cX7_comes 145 = .ok (.ifCond .eq 48, 3) := by decide +kernel
theorem dX7_comes_148 : decode cX7_comes 148 = .ok (.aload_n 0, 1) := by decide +kernel
theorem dX7_comes_149 : decode cX7_comes 149 = .ok (.iload 5, 2) := by decide +kernel
theorem dX7_comes_151 : decode cX7_comes 151 = .ok (.iload_n 2, 1) := by decide +kernel
theorem dX7_comes_152 : decode cX7_comes 152 = .ok (.invokevirtual 261, 3) := by decide +kernel
theorem dX7_comes_155 : decode cX7_comes 155 = .ok (.ifCond .eq 22, 3) := by decide +kernel
theorem dX7_comes_158 : decode cX7_comes 158 = .ok (.aload_n 0, 1) := by decide +kernel
theorem dX7_comes_159 : decode cX7_comes 159 = .ok (.iconst 5, 1) := by decide +kernel
theorem dX7_comes_160 : decode cX7_comes 160 = .ok (.iload 5, 2) := by decide +kernel
theorem dX7_comes_162 : decode cX7_comes 162 = .ok (.aload_n 0, 1) := by decide +kernel
theorem dX7_comes_163 : decode cX7_comes 163 = .ok (.getfield 17, 3) := by decide +kernel
theorem dX7_comes_166 : decode cX7_comes 166 = .ok (.iload 6, 2) := by decide +kernel
theorem dX7_comes_168 : decode cX7_comes 168 = .ok (.iconst 3, 1) := by decide +kernel
theorem dX7_comes_169 : decode cX7_comes 169 = .ok (.iadd, 1) := by decide +kernel
theorem dX7_comes_170 : decode cX7_comes 170 = .ok (.iaload, 1) := by decide +kernel
theorem dX7_comes_171 : decode cX7_comes 171 = .ok (.invokevirtual 216, 3) := by decide +kernel
theorem dX7_comes_174 : decode cX7_comes 174 = .ok (.goto 19, 3) := by decide +kernel
theorem dX7_comes_177 : decode cX7_comes 177 = .ok (.aload_n 0, 1) := by decide +kernel
theorem dX7_comes_178 : decode cX7_comes 178 = .ok (.iload 5, 2) := by decide +kernel
theorem dX7_comes_180 : decode cX7_comes 180 = .ok (.iconst 1, 1) := by decide +kernel
theorem dX7_comes_181 : decode cX7_comes 181 = .ok (.aload_n 0, 1) := by decide +kernel
theorem dX7_comes_182 : decode cX7_comes 182 = .ok (.getfield 17, 3) := by decide +kernel
theorem dX7_comes_185 : decode cX7_comes 185 = .ok (.iload 6, 2) := by decide +kernel
theorem dX7_comes_187 : decode cX7_comes 187 = .ok (.iconst 5, 1) := by decide +kernel
theorem dX7_comes_188 : decode cX7_comes 188 = .ok (.iadd, 1) := by decide +kernel
theorem dX7_comes_189 : decode cX7_comes 189 = .ok (.iaload, 1) := by decide +kernel
theorem dX7_comes_190 : decode cX7_comes 190 = .ok (.invokevirtual 246, 3) := by decide +kernel
theorem dX7_comes_193 : decode cX7_comes 193 = .ok (.iinc 5 1, 3) := by decide +kernel
theorem dX7_comes_196 : decode cX7_comes 196 = .ok (.goto (-143), 3) := by decide +kernel
theorem dX7_comes_199 : decode cX7_comes 199 = .ok (.aload_n 0, 1) := by decide +kernel
theorem dX7_comes_200 : decode cX7_comes 200 = .ok (.getfield 17, 3) := by decide +kernel
theorem dX7_comes_203 : decode cX7_comes 203 = .ok (.iload_n 2, 1) := by decide +kernel
theorem dX7_comes_204 : decode cX7_comes 204 = .ok (.bipush 7, 2) := by decide +kernel
theorem dX7_comes_206 : decode cX7_comes 206 = .ok (.iadd, 1) := by decide +kernel
theorem dX7_comes_207 : decode cX7_comes 207 = .ok (.iaload, 1) := by decide +kernel
theorem dX7_comes_208 : decode cX7_comes 208 = .ok (.iconst 1, 1) := by decide +kernel
theorem dX7_comes_209 : decode cX7_comes 209 = .ok (.if_icmp .ne 9, 3) := by decide +kernel
theorem dX7_comes_212 : decode cX7_comes 212 = .ok (.aload_n 0, 1) := by decide +kernel
theorem dX7_comes_213 : decode cX7_comes 213 = .ok (.iload_n 1, 1) := by decide +kernel
theorem dX7_comes_214 : decode cX7_comes 214 = .ok (.iload_n 2, 1) := by decide +kernel
theorem dX7_comes_215 : decode cX7_comes 215 = .ok (.invokevirtual 264, 3) := by decide +kernel
theorem dX7_comes_218 : decode cX7_comes 218 = .ok (.return_, 1) := by decide +kernel
theorem dX7_delivers_0 : decode cX7_delivers 0 = .ok (.aload_n 0, 1) := by decide +kernel
theorem dX7_delivers_1 : decode cX7_delivers 1 = .ok (.getfield 17, 3) := by decide +kernel
theorem dX7_delivers_4 : decode cX7_delivers 4 = .ok (.iconst 3, 1) := by decide +kernel
theorem dX7_delivers_5 : decode cX7_delivers 5 = .ok (.iaload, 1) := by decide +kernel
theorem dX7_delivers_6 : decode cX7_delivers 6 = .ok (.istore_n 1, 1) := by decide +kernel
theorem dX7_delivers_7 : decode cX7_delivers 7 = .ok (.iconst 0, 1) := by decide +kernel
theorem dX7_delivers_8 : decode cX7_delivers 8 = .ok (.istore_n 2, 1) := by decide +kernel
theorem dX7_delivers_9 : decode cX7_delivers 9 = .ok (.iload_n 2, 1) := by decide +kernel
theorem dX7_delivers_10 : decode cX7_delivers 10 = .ok (.iload_n 1, 1) := by decide +kernel
theorem dX7_delivers_11 : decode cX7_delivers 11 = .ok (.if_icmp .ge 121, 3) := by decide +kernel
theorem dX7_delivers_14 : decode cX7_delivers 14 = .ok (.aload_n 0, 1) := by decide +kernel
theorem dX7_delivers_15 : decode cX7_delivers 15 = .ok (.getfield 17, 3) := by decide +kernel
theorem dX7_delivers_18 : decode cX7_delivers 18 = .ok (.iload_n 2, 1) := by decide +kernel
theorem dX7_delivers_19 : decode cX7_delivers 19 = .ok (.invokestatic 220, 3) := by decide +kernel
theorem dX7_delivers_22 : decode cX7_delivers 22 = .ok (.bipush 8, 2) := by decide +kernel
theorem dX7_delivers_24 : decode cX7_delivers 24 = .ok (.iadd, 1) := by decide +kernel
theorem dX7_delivers_25 : decode cX7_delivers 25 = .ok (.iaload, 1) := by decide +kernel
theorem dX7_delivers_26 : decode cX7_delivers 26 = .ok (.aload_n 0, 1) := by decide +kernel
theorem dX7_delivers_27 : decode cX7_delivers 27 = .ok (.getfield 17, 3) := by decide +kernel
theorem dX7_delivers_30 : decode cX7_delivers 30 = .ok (.iconst 0, 1) := by decide +kernel
theorem dX7_delivers_31 : decode cX7_delivers 31 = .ok (.iaload, 1) := by decide +kernel
theorem dX7_delivers_32 : decode cX7_delivers 32 = .ok (.if_icmp .ge 100, 3) := by decide +kernel
theorem dX7_delivers_35 : decode cX7_delivers 35 = .ok (.iload_n 2, 1) := by decide +kernel
theorem dX7_delivers_36 : decode cX7_delivers 36 = .ok (.invokestatic 220, 3) := by decide +kernel
theorem dX7_delivers_39 : decode cX7_delivers 39 = .ok (.istore_n 3, 1) := by decide +kernel
theorem dX7_delivers_40 : decode cX7_delivers 40 = .ok (.iconst 0, 1) := by decide +kernel
theorem dX7_delivers_41 : decode cX7_delivers 41 = .ok (.istore 4, 2) := by decide +kernel
theorem dX7_delivers_43 : decode cX7_delivers 43 = .ok (.iload 4, 2) := by decide +kernel
theorem dX7_delivers_45 : decode cX7_delivers 45 = .ok (.aload_n 0, 1) := by decide +kernel
theorem dX7_delivers_46 : decode cX7_delivers 46 = .ok (.getfield 199, 3) := by decide +kernel
theorem dX7_delivers_49 : decode cX7_delivers 49 = .ok (.if_icmp .ge 77, 3) := by decide +kernel
theorem dX7_delivers_52 : decode cX7_delivers 52 = .ok (.iload 4, 2) := by decide +kernel
theorem dX7_delivers_54 : decode cX7_delivers 54 = .ok (.aload_n 0, 1) := by decide +kernel
theorem dX7_delivers_55 : decode cX7_delivers 55 = .ok (.getfield 17, 3) := by decide +kernel
theorem dX7_delivers_58 : decode cX7_delivers 58 = .ok (.iload_n 3, 1) := by decide +kernel
theorem dX7_delivers_59 : decode cX7_delivers 59 = .ok (.iconst 4, 1) := by decide +kernel
theorem dX7_delivers_60 : decode cX7_delivers 60 = .ok (.iadd, 1) := by decide +kernel
theorem dX7_delivers_61 : decode cX7_delivers 61 = .ok (.iaload, 1) := by decide +kernel
theorem dX7_delivers_62 : decode cX7_delivers 62 = .ok (.if_icmp .eq 58, 3) := by decide +kernel
theorem dX7_delivers_65 : decode cX7_delivers 65 = .ok (.aload_n 0, 1) := by decide +kernel
theorem dX7_delivers_66 : decode cX7_delivers 66 = .ok (.getfield 17, 3) := by decide +kernel
theorem dX7_delivers_69 : decode cX7_delivers 69 = .ok (.iload 4, 2) := by decide +kernel
theorem dX7_delivers_71 : decode cX7_delivers 71 = .ok (.invokestatic 78, 3) := by decide +kernel
theorem dX7_delivers_74 : decode cX7_delivers 74 = .ok (.iconst 0, 1) := by decide +kernel
theorem dX7_delivers_75 : decode cX7_delivers 75 = .ok (.iadd, 1) := by decide +kernel
theorem dX7_delivers_76 : decode cX7_delivers 76 = .ok (.iaload, 1) := by decide +kernel
theorem dX7_delivers_77 : decode cX7_delivers 77 = .ok (.ifCond .eq 43, 3) := by decide +kernel
theorem dX7_delivers_80 : decode cX7_delivers 80 = .ok (.aload_n 0, 1) := by decide +kernel
theorem dX7_delivers_81 : decode cX7_delivers 81 = .ok (.getfield 17, 3) := by decide +kernel
theorem dX7_delivers_84 : decode cX7_delivers 84 = .ok (.iload 4, 2) := by decide +kernel
theorem dX7_delivers_86 : decode cX7_delivers 86 = .ok (.invokestatic 78, 3) := by decide +kernel
theorem dX7_delivers_89 : decode cX7_delivers 89 = .ok (.iconst 1, 1) := by decide +kernel
theorem dX7_delivers_90 : decode cX7_delivers 90 = .ok (.iadd, 1) := by decide +kernel
theorem dX7_delivers_91 : decode cX7_delivers 91 = .ok (.iaload, 1) := by decide +kernel
theorem dX7_delivers_92 : decode cX7_delivers 92 = .ok (.aload_n 0, 1) := by decide +kernel
theorem dX7_delivers_93 : decode cX7_delivers 93 = .ok (.getfield 17, 3) := by decide +kernel
theorem dX7_delivers_96 : decode cX7_delivers 96 = .ok (.aload_n 0, 1) := by decide +kernel
theorem dX7_delivers_97 : decode cX7_delivers 97 = .ok (.getfield 17, 3) := by decide +kernel
theorem dX7_delivers_100 : decode cX7_delivers 100 = .ok (.iload_n 3, 1) := by decide +kernel
theorem dX7_delivers_101 : decode cX7_delivers 101 = .ok (.iconst 4, 1) := by decide +kernel
theorem dX7_delivers_102 : decode cX7_delivers 102 = .ok (.iadd, 1) := by decide +kernel
theorem dX7_delivers_103 : decode cX7_delivers 103 = .ok (.iaload, 1) := by decide +kernel
theorem dX7_delivers_104 : decode cX7_delivers 104 = .ok (.invokestatic 78, 3) := by decide +kernel
theorem dX7_delivers_107 : decode cX7_delivers 107 = .ok (.iconst 1, 1) := by decide +kernel
theorem dX7_delivers_108 : decode cX7_delivers 108 = .ok (.iadd, 1) := by decide +kernel
theorem dX7_delivers_109 : decode cX7_delivers 109 = .ok (.iaload, 1) := by decide +kernel
theorem dX7_delivers_110 : decode cX7_delivers 110 = .ok (.if_icmp .ne 10, 3) := by decide +kernel
theorem dX7_delivers_113 : decode cX7_delivers 113 = .ok (.aload_n 0, 1) := by decide +kernel
theorem dX7_delivers_114 : decode cX7_delivers 114 = .ok (.iload 4, 2) := by decide +kernel
theorem dX7_delivers_116 : decode cX7_delivers 116 = .ok (.iload_n 3, 1) := by decide +kernel
theorem dX7_delivers_117 : decode cX7_delivers 117 = .ok (.invokevirtual 267, 3) := by decide +kernel
theorem dX7_delivers_120 : decode cX7_delivers 120 = .ok (.iinc 4 1, 3) := by decide +kernel
theorem dX7_delivers_123 : decode cX7_delivers 123 = .ok (.goto (-80), 3) := by decide +kernel
theorem dX7_delivers_126 : decode cX7_delivers 126 = .ok (.iinc 2 1, 3) := by decide +kernel
theorem dX7_delivers_129 : decode cX7_delivers 129 = .ok (.goto (-120), 3) := by decide +kernel
theorem dX7_delivers_132 : decode cX7_delivers 132 = .ok (.aload_n 0, 1) := by decide +kernel
theorem dX7_delivers_133 : decode cX7_delivers 133 = .ok (.getfield 17, 3) := by decide +kernel
theorem dX7_delivers_136 : decode cX7_delivers 136 = .ok (.iconst 3, 1) := by decide +kernel
theorem dX7_delivers_137 : decode cX7_delivers 137 = .ok (.dup2, 1) := by decide +kernel
theorem dX7_delivers_138 : decode cX7_delivers 138 = .ok (.iaload, 1) := by decide +kernel
theorem dX7_delivers_139 : decode cX7_delivers 139 = .ok (.iload_n 2, 1) := by decide +kernel
theorem dX7_delivers_140 : decode cX7_delivers 140 = .ok (.isub, 1) := by decide +kernel
theorem dX7_delivers_141 : decode cX7_delivers 141 = .ok (.iastore, 1) := by decide +kernel
theorem dX7_delivers_142 : decode cX7_delivers 142 = .ok (.sipush 2747, 3) := by decide +kernel
theorem dX7_delivers_145 : decode cX7_delivers 145 = .ok (.istore_n 3, 1) := by decide +kernel
theorem dX7_delivers_146 : decode cX7_delivers 146 = .ok (.iload_n 3, 1) := by decide +kernel
theorem dX7_delivers_147 : decode cX7_delivers 147 = .ok (.aload_n 0, 1) := by decide +kernel
theorem dX7_delivers_148 : decode cX7_delivers 148 = .ok (.getfield 17, 3) := by decide +kernel
theorem dX7_delivers_151 : decode cX7_delivers 151 = .ok (.iconst 3, 1) := by decide +kernel
theorem dX7_delivers_152 : decode cX7_delivers 152 = .ok (.iaload, 1) := by decide +kernel
theorem dX7_delivers_153 : decode cX7_delivers 153 = .ok (.invokestatic 220, 3) := by decide +kernel
theorem dX7_delivers_156 : decode cX7_delivers 156 = .ok (.if_icmp .ge 26, 3) := by decide +kernel
theorem dX7_delivers_159 : decode cX7_delivers 159 = .ok (.aload_n 0, 1) := by decide +kernel
theorem dX7_delivers_160 : decode cX7_delivers 160 = .ok (.getfield 17, 3) := by decide +kernel
theorem dX7_delivers_163 : decode cX7_delivers 163 = .ok (.iload_n 3, 1) := by decide +kernel
theorem dX7_delivers_164 : decode cX7_delivers 164 = .ok (.aload_n 0, 1) := by decide +kernel
theorem dX7_delivers_165 : decode cX7_delivers 165 = .ok (.getfield 17, 3) := by decide +kernel
theorem dX7_delivers_168 : decode cX7_delivers 168 = .ok (.iload_n 3, 1) := by decide +kernel
theorem dX7_delivers_169 : decode cX7_delivers 169 = .ok (.bipush 9, 2) := by decide +kernel
theorem dX7_delivers_171 : decode cX7_delivers 171 = .ok (.iload_n 2, 1) := by decide +kernel
theorem dX7_delivers_172 : decode cX7_delivers 172 = .ok (.imul, 1) := by decide +kernel
theorem dX7_delivers_173 : decode cX7_delivers 173 = .ok (.iadd, 1) := by decide +kernel
theorem dX7_delivers_174 : decode cX7_delivers 174 = .ok (.iaload, 1) := by decide +kernel
theorem dX7_delivers_175 : decode cX7_delivers 175 = .ok (.iastore, 1) := by decide +kernel
theorem dX7_delivers_176 : decode cX7_delivers 176 = .ok (.iinc 3 1, 3) := by decide +kernel
theorem dX7_delivers_179 : decode cX7_delivers 179 = .ok (.goto (-33), 3) := by decide +kernel
theorem dX7_delivers_182 : decode cX7_delivers 182 = .ok (.return_, 1) := by decide +kernel
theorem dX7_expires_0 : decode cX7_expires 0 = .ok (.iconst 0, 1) := by decide +kernel
theorem dX7_expires_1 : decode cX7_expires 1 = .ok (.istore_n 2, 1) := by decide +kernel
theorem dX7_expires_2 : decode cX7_expires 2 = .ok (.iload_n 2, 1) := by decide +kernel
theorem dX7_expires_3 : decode cX7_expires 3 = .ok (.aload_n 0, 1) := by decide +kernel
theorem dX7_expires_4 : decode cX7_expires 4 = .ok (.getfield 17, 3) := by decide +kernel
