theorem dL_isMarked_14 : decode cL_isMarked 14 = .ok (.lconst 0, 1) := by decide +kernel
theorem dL_isMarked_15 : decode cL_isMarked 15 = .ok (.lastore, 1) := by decide +kernel
theorem dL_isMarked_16 : decode cL_isMarked 16 = .ok (.goto 6, 3) := by decide +kernel
theorem dL_isMarked_19 : decode cL_isMarked 19 = .ok (.astore_n 3, 1) := by decide +kernel
theorem dL_isMarked_20 : decode cL_isMarked 20 = .ok (.iconst 1, 1) := by decide +kernel
theorem dL_isMarked_21 : decode cL_isMarked 21 = .ok (.ireturn, 1) := by decide +kernel
theorem dL_isMarked_22 : decode cL_isMarked 22 = .ok (.iconst 0, 1) := by decide +kernel
theorem dL_isMarked_23 : decode cL_isMarked 23 = .ok (.ireturn, 1) := by decide +kernel
theorem dL_log_0 : decode cL_log 0 = .ok (.aload_n 3, 1) := by decide +kernel
theorem dL_log_1 : decode cL_log 1 = .ok (.iconst 0, 1) := by decide +kernel
theorem dL_log_2 : decode cL_log 2 = .ok (.aload_n 0, 1) := by decide +kernel
theorem dL_log_3 : decode cL_log 3 = .ok (.iload_n 1, 1) := by decide +kernel
theorem dL_log_4 : decode cL_log 4 = .ok (.iload_n 2, 1) := by decide +kernel
theorem dL_log_5 : decode cL_log 5 = .ok (.invokevirtual 66, 3) := by decide +kernel
theorem dL_log_8 : decode cL_log 8 = .ok (.i2l, 1) := by decide +kernel
theorem dL_log_9 : decode cL_log 9 = .ok (.lastore, 1) := by decide +kernel
theorem dL_log_10 : decode cL_log 10 = .ok (.goto 11, 3) := by decide +kernel
theorem dL_log_13 : decode cL_log 13 = .ok (.astore 4, 2) := by decide +kernel
theorem dL_log_15 : decode cL_log 15 = .ok (.iconst 1, 1) := by decide +kernel
theorem dL_log_16 : decode cL_log 16 = .ok (.ireturn, 1) := by decide +kernel
theorem dL_known_0 : decode cL_known 0 = .ok (.aload_n 3, 1) := by decide +kernel
theorem dL_known_1 : decode cL_known 1 = .ok (.iconst 0, 1) := by decide +kernel
theorem dL_known_2 : decode cL_known 2 = .ok (.aload_n 0, 1) := by decide +kernel
theorem dL_known_3 : decode cL_known 3 = .ok (.iload_n 1, 1) := by decide +kernel
theorem dL_known_4 : decode cL_known 4 = .ok (.iload_n 2, 1) := by decide +kernel
theorem dL_known_5 : decode cL_known 5 = .ok (.invokevirtual 69, 3) := by decide +kernel
theorem dL_known_8 : decode cL_known 8 = .ok (.i2l, 1) := by decide +kernel
theorem dL_known_9 : decode cL_known 9 = .ok (.lastore, 1) := by decide +kernel
theorem dL_known_10 : decode cL_known 10 = .ok (.goto 7, 3) := by decide +kernel
theorem dL_known_13 : decode cL_known 13 = .ok (.astore 4, 2) := by decide +kernel
theorem dL_known_15 : decode cL_known 15 = .ok (.iconst 1, 1) := by decide +kernel
theorem dL_known_16 : decode cL_known 16 = .ok (.ireturn, 1) := by decide +kernel
theorem dL_known_17 : decode cL_known 17 = .ok (.iconst 0, 1) := by decide +kernel
theorem dL_known_18 : decode cL_known 18 = .ok (.ireturn, 1) := by decide +kernel
theorem dL_records_0 : decode cL_records 0 = .ok (.aload_n 3, 1) := by decide +kernel
theorem dL_records_1 : decode cL_records 1 = .ok (.iconst 0, 1) := by decide +kernel
theorem dL_records_2 : decode cL_records 2 = .ok (.aload_n 0, 1) := by decide +kernel
theorem dL_records_3 : decode cL_records 3 = .ok (.iload_n 1, 1) := by decide +kernel
theorem dL_records_4 : decode cL_records 4 = .ok (.iload_n 2, 1) := by decide +kernel
theorem dL_records_5 : decode cL_records 5 = .ok (.invokevirtual 72, 3) := by decide +kernel
theorem dL_records_8 : decode cL_records 8 = .ok (.i2l, 1) := by decide +kernel
theorem dL_records_9 : decode cL_records 9 = .ok (.lastore, 1) := by decide +kernel
theorem dL_records_10 : decode cL_records 10 = .ok (.goto 7, 3) := by decide +kernel
theorem dL_records_13 : decode cL_records 13 = .ok (.astore 4, 2) := by decide +kernel
theorem dL_records_15 : decode cL_records 15 = .ok (.iconst 1, 1) := by decide +kernel
theorem dL_records_16 : decode cL_records 16 = .ok (.ireturn, 1) := by decide +kernel
theorem dL_records_17 : decode cL_records 17 = .ok (.iconst 0, 1) := by decide +kernel
theorem dL_records_18 : decode cL_records 18 = .ok (.ireturn, 1) := by decide +kernel
theorem dL_why_0 : decode cL_why 0 = .ok (.aload_n 3, 1) := by decide +kernel
theorem dL_why_1 : decode cL_why 1 = .ok (.iconst 0, 1) := by decide +kernel
theorem dL_why_2 : decode cL_why 2 = .ok (.aload_n 0, 1) := by decide +kernel
theorem dL_why_3 : decode cL_why 3 = .ok (.iload_n 1, 1) := by decide +kernel
theorem dL_why_4 : decode cL_why 4 = .ok (.iload_n 2, 1) := by decide +kernel
theorem dL_why_5 : decode cL_why 5 = .ok (.invokevirtual 75, 3) := by decide +kernel
theorem dL_why_8 : decode cL_why 8 = .ok (.i2l, 1) := by decide +kernel
theorem dL_why_9 : decode cL_why 9 = .ok (.lastore, 1) := by decide +kernel
theorem dL_why_10 : decode cL_why 10 = .ok (.goto 11, 3) := by decide +kernel
theorem dL_why_13 : decode cL_why 13 = .ok (.astore 4, 2) := by decide +kernel
theorem dL_why_15 : decode cL_why 15 = .ok (.iconst 1, 1) := by decide +kernel
theorem dL_why_16 : decode cL_why 16 = .ok (.ireturn, 1) := by decide +kernel
theorem dL_why_17 : decode cL_why 17 = .ok (.astore 4, 2) := by decide +kernel
theorem dL_why_19 : decode cL_why 19 = .ok (.iconst 2, 1) := by decide +kernel
theorem dL_why_20 : decode cL_why 20 = .ok (.ireturn, 1) := by decide +kernel
theorem dL_why_21 : decode cL_why 21 = .ok (.iconst 0, 1) := by decide +kernel
theorem dL_why_22 : decode cL_why 22 = .ok (.ireturn, 1) := by decide +kernel
theorem dL_establishedIn_0 : decode cL_establishedIn 0 = .ok (.aload_n 2, 1) := by decide +kernel
theorem dL_establishedIn_1 : decode cL_establishedIn 1 = .ok (.iconst 0, 1) := by decide +kernel
theorem dL_establishedIn_2 : decode cL_establishedIn 2 = .ok (.aload_n 0, 1) := by decide +kernel
theorem dL_establishedIn_3 : decode cL_establishedIn 3 = .ok (.iload_n 1, 1) := by decide +kernel
theorem dL_establishedIn_4 : decode cL_establishedIn 4 = .ok (.invokevirtual 78, 3) := by decide +kernel
theorem dL_establishedIn_7 : decode cL_establishedIn 7 = .ok (.i2l, 1) := by decide +kernel
theorem dL_establishedIn_8 : decode cL_establishedIn 8 = .ok (.lastore, 1) := by decide +kernel
theorem dL_establishedIn_9 : decode cL_establishedIn 9 = .ok (.goto 9, 3) := by decide +kernel
theorem dL_establishedIn_12 : decode cL_establishedIn 12 = .ok (.astore_n 3, 1) := by decide +kernel
theorem dL_establishedIn_13 : decode cL_establishedIn 13 = .ok (.iconst 1, 1) := by decide +kernel
theorem dL_establishedIn_14 : decode cL_establishedIn 14 = .ok (.ireturn, 1) := by decide +kernel
theorem dL_establishedIn_18 : decode cL_establishedIn 18 = .ok (.iconst 0, 1) := by decide +kernel
theorem dL_establishedIn_19 : decode cL_establishedIn 19 = .ok (.ireturn, 1) := by decide +kernel
theorem dL_numberIn_0 : decode cL_numberIn 0 = .ok (.aload_n 3, 1) := by decide +kernel
theorem dL_numberIn_1 : decode cL_numberIn 1 = .ok (.iconst 0, 1) := by decide +kernel
theorem dL_numberIn_2 : decode cL_numberIn 2 = .ok (.aload_n 0, 1) := by decide +kernel
theorem dL_numberIn_3 : decode cL_numberIn 3 = .ok (.iload_n 1, 1) := by decide +kernel
theorem dL_numberIn_4 : decode cL_numberIn 4 = .ok (.iload_n 2, 1) := by decide +kernel
theorem dL_numberIn_5 : decode cL_numberIn 5 = .ok (.invokevirtual 81, 3) := by decide +kernel
theorem dL_numberIn_8 : decode cL_numberIn 8 = .ok (.i2l, 1) := by decide +kernel
theorem dL_numberIn_9 : decode cL_numberIn 9 = .ok (.lastore, 1) := by decide +kernel
theorem dL_numberIn_10 : decode cL_numberIn 10 = .ok (.goto 11, 3) := by decide +kernel
theorem dL_numberIn_13 : decode cL_numberIn 13 = .ok (.astore 4, 2) := by decide +kernel
theorem dL_numberIn_15 : decode cL_numberIn 15 = .ok (.iconst 1, 1) := by decide +kernel
theorem dL_numberIn_16 : decode cL_numberIn 16 = .ok (.ireturn, 1) := by decide +kernel
theorem dL_numberIn_17 : decode cL_numberIn 17 = .ok (.astore 4, 2) := by decide +kernel
theorem dL_numberIn_19 : decode cL_numberIn 19 = .ok (.iconst 2, 1) := by decide +kernel
theorem dL_numberIn_20 : decode cL_numberIn 20 = .ok (.ireturn, 1) := by decide +kernel
theorem dL_numberIn_21 : decode cL_numberIn 21 = .ok (.iconst 0, 1) := by decide +kernel
theorem dL_numberIn_22 : decode cL_numberIn 22 = .ok (.ireturn, 1) := by decide +kernel
theorem dL_knownIn_0 : decode cL_knownIn 0 = .ok (.aload_n 3, 1) := by decide +kernel
theorem dL_knownIn_1 : decode cL_knownIn 1 = .ok (.iconst 0, 1) := by decide +kernel
theorem dL_knownIn_2 : decode cL_knownIn 2 = .ok (.aload_n 0, 1) := by decide +kernel
theorem dL_knownIn_3 : decode cL_knownIn 3 = .ok (.iload_n 1, 1) := by decide +kernel
theorem dL_knownIn_4 : decode cL_knownIn 4 = .ok (.iload_n 2, 1) := by decide +kernel
theorem dL_knownIn_5 : decode cL_knownIn 5 = .ok (.invokevirtual 84, 3) := by decide +kernel
theorem dL_knownIn_8 : decode cL_knownIn 8 = .ok (.i2l, 1) := by decide +kernel
theorem dL_knownIn_9 : decode cL_knownIn 9 = .ok (.lastore, 1) := by decide +kernel
theorem dL_knownIn_10 : decode cL_knownIn 10 = .ok (.goto 11, 3) := by decide +kernel
theorem dL_knownIn_13 : decode cL_knownIn 13 = .ok (.astore 4, 2) := by decide +kernel
theorem dL_knownIn_15 : decode cL_knownIn 15 = .ok (.iconst 1, 1) := by decide +kernel
theorem dL_knownIn_16 : decode cL_knownIn 16 = .ok (.ireturn, 1) := by decide +kernel
theorem dL_knownIn_17 : decode cL_knownIn 17 = .ok (.astore 4, 2) := by decide +kernel
theorem dL_knownIn_19 : decode cL_knownIn 19 = .ok (.iconst 2, 1) := by decide +kernel
theorem dL_knownIn_20 : decode cL_knownIn 20 = .ok (.ireturn, 1) := by decide +kernel
theorem dL_knownIn_21 : decode cL_knownIn 21 = .ok (.iconst 0, 1) := by decide +kernel
theorem dL_knownIn_22 : decode cL_knownIn 22 = .ok (.ireturn, 1) := by decide +kernel
theorem dL_messagesIn_0 : decode cL_messagesIn 0 = .ok (.aload_n 2, 1) := by decide +kernel
theorem dL_messagesIn_1 : decode cL_messagesIn 1 = .ok (.iconst 0, 1) := by decide +kernel
theorem dL_messagesIn_2 : decode cL_messagesIn 2 = .ok (.aload_n 0, 1) := by decide +kernel
theorem dL_messagesIn_3 : decode cL_messagesIn 3 = .ok (.iload_n 1, 1) := by decide +kernel
theorem dL_messagesIn_4 : decode cL_messagesIn 4 = .ok (.invokevirtual 87, 3) := by decide +kernel
theorem dL_messagesIn_7 : decode cL_messagesIn 7 = .ok (.i2l, 1) := by decide +kernel
theorem dL_messagesIn_8 : decode cL_messagesIn 8 = .ok (.lastore, 1) := by decide +kernel
theorem dL_messagesIn_9 : decode cL_messagesIn 9 = .ok (.goto 6, 3) := by decide +kernel
theorem dL_messagesIn_12 : decode cL_messagesIn 12 = .ok (.astore_n 3, 1) := by decide +kernel
theorem dL_messagesIn_13 : decode cL_messagesIn 13 = .ok (.iconst 1, 1) := by decide +kernel
theorem dL_messagesIn_14 : decode cL_messagesIn 14 = .ok (.ireturn, 1) := by decide +kernel
theorem dL_messagesIn_15 : decode cL_messagesIn 15 = .ok (.iconst 0, 1) := by decide +kernel
theorem dL_messagesIn_16 : decode cL_messagesIn 16 = .ok (.ireturn, 1) := by decide +kernel
theorem dL_freshIn_0 : decode cL_freshIn 0 = .ok (.aload_n 1, 1) := by decide +kernel
theorem dL_freshIn_1 : decode cL_freshIn 1 = .ok (.iconst 0, 1) := by decide +kernel
theorem dL_freshIn_2 : decode cL_freshIn 2 = .ok (.aload_n 0, 1) := by decide +kernel
theorem dL_freshIn_3 : decode cL_freshIn 3 = .ok (.invokevirtual 90, 3) := by decide +kernel
theorem dL_freshIn_6 : decode cL_freshIn 6 = .ok (.i2l, 1) := by decide +kernel
theorem dL_freshIn_7 : decode cL_freshIn 7 = .ok (.lastore, 1) := by decide +kernel
theorem dL_freshIn_8 : decode cL_freshIn 8 = .ok (.goto 6, 3) := by decide +kernel
theorem dL_freshIn_14 : decode cL_freshIn 14 = .ok (.iconst 0, 1) := by decide +kernel
theorem dL_freshIn_15 : decode cL_freshIn 15 = .ok (.ireturn, 1) := by decide +kernel
theorem dL_numberIf_0 : decode cL_numberIf 0 = .ok (.aload 5, 2) := by decide +kernel
theorem dL_numberIf_2 : decode cL_numberIf 2 = .ok (.iconst 0, 1) := by decide +kernel
theorem dL_numberIf_3 : decode cL_numberIf 3 = .ok (.aload_n 0, 1) := by decide +kernel
theorem dL_numberIf_4 : decode cL_numberIf 4 = .ok (.iload_n 1, 1) := by decide +kernel
theorem dL_numberIf_5 : decode cL_numberIf 5 = .ok (.iload_n 2, 1) := by decide +kernel
theorem dL_numberIf_6 : decode cL_numberIf 6 = .ok (.iload_n 3, 1) := by decide +kernel
theorem dL_numberIf_7 : decode cL_numberIf 7 = .ok (.iload 4, 2) := by decide +kernel
theorem dL_numberIf_9 : decode cL_numberIf 9 = .ok (.invokevirtual 93, 3) := by decide +kernel
theorem dL_numberIf_12 : decode cL_numberIf 12 = .ok (.i2l, 1) := by decide +kernel
theorem dL_numberIf_13 : decode cL_numberIf 13 = .ok (.lastore, 1) := by decide +kernel
theorem dL_numberIf_14 : decode cL_numberIf 14 = .ok (.goto 19, 3) := by decide +kernel
theorem dL_numberIf_17 : decode cL_numberIf 17 = .ok (.astore 6, 2) := by decide +kernel
theorem dL_numberIf_19 : decode cL_numberIf 19 = .ok (.iconst 1, 1) := by decide +kernel
theorem dL_numberIf_20 : decode cL_numberIf 20 = .ok (.ireturn, 1) := by decide +kernel
theorem dL_numberIf_21 : decode cL_numberIf 21 = .ok (.astore 6, 2) := by decide +kernel
theorem dL_numberIf_23 : decode cL_numberIf 23 = .ok (.iconst 2, 1) := by decide +kernel
theorem dL_numberIf_24 : decode cL_numberIf 24 = .ok (.ireturn, 1) := by decide +kernel
theorem dL_numberIf_25 : decode cL_numberIf 25 = .ok (.astore 6, 2) := by decide +kernel
theorem dL_numberIf_27 : decode cL_numberIf 27 = .ok (.iconst 3, 1) := by decide +kernel
theorem dL_numberIf_28 : decode cL_numberIf 28 = .ok (.ireturn, 1) := by decide +kernel
theorem dL_outputByte_0 : decode cL_outputByte 0 = .ok (.aload_n 2, 1) := by decide +kernel
theorem dL_outputByte_1 : decode cL_outputByte 1 = .ok (.iconst 0, 1) := by decide +kernel
theorem dL_outputByte_2 : decode cL_outputByte 2 = .ok (.aload_n 0, 1) := by decide +kernel
theorem dL_outputByte_3 : decode cL_outputByte 3 = .ok (.iload_n 1, 1) := by decide +kernel
theorem dL_outputByte_4 : decode cL_outputByte 4 = .ok (.invokevirtual 97, 3) := by decide +kernel
theorem dL_outputByte_7 : decode cL_outputByte 7 = .ok (.i2l, 1) := by decide +kernel
theorem dL_outputByte_8 : decode cL_outputByte 8 = .ok (.lastore, 1) := by decide +kernel
theorem dL_outputByte_9 : decode cL_outputByte 9 = .ok (.goto 6, 3) := by decide +kernel
theorem dL_outputByte_12 : decode cL_outputByte 12 = .ok (.astore_n 3, 1) := by decide +kernel
theorem dL_outputByte_13 : decode cL_outputByte 13 = .ok (.iconst 1, 1) := by decide +kernel
theorem dL_outputByte_14 : decode cL_outputByte 14 = .ok (.ireturn, 1) := by decide +kernel
theorem dL_pass_0 : decode cL_pass 0 = .ok (.aload_n 2, 1) := by decide +kernel
theorem dL_pass_1 : decode cL_pass 1 = .ok (.iconst 0, 1) := by decide +kernel
theorem dL_pass_2 : decode cL_pass 2 = .ok (.aload_n 0, 1) := by decide +kernel
theorem dL_pass_3 : decode cL_pass 3 = .ok (.iload_n 1, 1) := by decide +kernel
theorem dL_pass_4 : decode cL_pass 4 = .ok (.invokevirtual 100, 3) := by decide +kernel
theorem dL_pass_7 : decode cL_pass 7 = .ok (.i2l, 1) := by decide +kernel
theorem dL_pass_8 : decode cL_pass 8 = .ok (.lastore, 1) := by decide +kernel
theorem dL_pass_9 : decode cL_pass 9 = .ok (.goto 9, 3) := by decide +kernel
theorem dL_pass_12 : decode cL_pass 12 = .ok (.astore_n 3, 1) := by decide +kernel
theorem dL_pass_13 : decode cL_pass 13 = .ok (.iconst 1, 1) := by decide +kernel
theorem dL_pass_14 : decode cL_pass 14 = .ok (.ireturn, 1) := by decide +kernel
theorem dL_pass_18 : decode cL_pass 18 = .ok (.iconst 0, 1) := by decide +kernel
theorem dL_pass_19 : decode cL_pass 19 = .ok (.ireturn, 1) := by decide +kernel
theorem dL_add_0 : decode cL_add 0 = .ok (.aload 5, 2) := by decide +kernel
theorem dL_add_2 : decode cL_add 2 = .ok (.iconst 0, 1) := by decide +kernel
theorem dL_add_3 : decode cL_add 3 = .ok (.aload_n 0, 1) := by decide +kernel
theorem dL_add_4 : decode cL_add 4 = .ok (.iload_n 1, 1) := by decide +kernel
theorem dL_add_5 : decode cL_add 5 = .ok (.iload_n 2, 1) := by decide +kernel
theorem dL_add_6 : decode cL_add 6 = .ok (.iload_n 3, 1) := by decide +kernel
theorem dL_add_7 : decode cL_add 7 = .ok (.iload 4, 2) := by decide +kernel
theorem dL_add_9 : decode cL_add 9 = .ok (.invokevirtual 103, 3) := by decide +kernel
theorem dL_add_12 : decode cL_add 12 = .ok (.i2l, 1) := by decide +kernel
theorem dL_add_13 : decode cL_add 13 = .ok (.lastore, 1) := by decide +kernel
theorem dL_add_14 : decode cL_add 14 = .ok (.goto 15, 3) := by decide +kernel
theorem dL_add_17 : decode cL_add 17 = .ok (.astore 6, 2) := by decide +kernel
theorem dL_add_19 : decode cL_add 19 = .ok (.iconst 1, 1) := by decide +kernel
theorem dL_add_20 : decode cL_add 20 = .ok (.ireturn, 1) := by decide +kernel
theorem dL_add_21 : decode cL_add 21 = .ok (.astore 6, 2) := by decide +kernel
theorem dL_add_23 : decode cL_add 23 = .ok (.iconst 2, 1) := by decide +kernel
theorem dL_add_24 : decode cL_add 24 = .ok (.ireturn, 1) := by decide +kernel
theorem dL_withdraw_0 : decode cL_withdraw 0 = .ok (.aload_n 2, 1) := by decide +kernel
theorem dL_withdraw_1 : decode cL_withdraw 1 = .ok (.iconst 0, 1) := by decide +kernel
theorem dL_withdraw_2 : decode cL_withdraw 2 = .ok (.aload_n 0, 1) := by decide +kernel
theorem dL_withdraw_3 : decode cL_withdraw 3 = .ok (.iload_n 1, 1) := by decide +kernel
theorem dL_withdraw_4 : decode cL_withdraw 4 = .ok (.invokevirtual 106, 3) := by decide +kernel
theorem dL_withdraw_7 : decode cL_withdraw 7 = .ok (.i2l, 1) := by decide +kernel
theorem dL_withdraw_8 : decode cL_withdraw 8 = .ok (.lastore, 1) := by decide +kernel
theorem dL_withdraw_9 : decode cL_withdraw 9 = .ok (.goto 9, 3) := by decide +kernel
theorem dL_withdraw_12 : decode cL_withdraw 12 = .ok (.astore_n 3, 1) := by decide +kernel
theorem dL_withdraw_13 : decode cL_withdraw 13 = .ok (.iconst 1, 1) := by decide +kernel
theorem dL_withdraw_14 : decode cL_withdraw 14 = .ok (.ireturn, 1) := by decide +kernel
theorem dL_withdraw_18 : decode cL_withdraw 18 = .ok (.iconst 0, 1) := by decide +kernel
theorem dL_withdraw_19 : decode cL_withdraw 19 = .ok (.ireturn, 1) := by decide +kernel
theorem dL_setPort_0 : decode cL_setPort 0 = .ok (.aload_n 3, 1) := by decide +kernel
theorem dL_setPort_1 : decode cL_setPort 1 = .ok (.iconst 0, 1) := by decide +kernel
theorem dL_setPort_2 : decode cL_setPort 2 = .ok (.aload_n 0, 1) := by decide +kernel
theorem dL_setPort_3 : decode cL_setPort 3 = .ok (.iload_n 1, 1) := by decide +kernel
theorem dL_setPort_4 : decode cL_setPort 4 = .ok (.iload_n 2, 1) := by decide +kernel
theorem dL_setPort_5 : decode cL_setPort 5 = .ok (.invokevirtual 109, 3) := by decide +kernel
theorem dL_setPort_8 : decode cL_setPort 8 = .ok (.i2l, 1) := by decide +kernel
theorem dL_setPort_9 : decode cL_setPort 9 = .ok (.lastore, 1) := by decide +kernel
theorem dL_setPort_10 : decode cL_setPort 10 = .ok (.goto 11, 3) := by decide +kernel
theorem dL_setPort_13 : decode cL_setPort 13 = .ok (.astore 4, 2) := by decide +kernel
theorem dL_setPort_15 : decode cL_setPort 15 = .ok (.iconst 1, 1) := by decide +kernel
theorem dL_setPort_16 : decode cL_setPort 16 = .ok (.ireturn, 1) := by decide +kernel
theorem dL_setPort_17 : decode cL_setPort 17 = .ok (.astore 4, 2) := by decide +kernel
theorem dL_setPort_19 : decode cL_setPort 19 = .ok (.iconst 2, 1) := by decide +kernel
theorem dL_setPort_20 : decode cL_setPort 20 = .ok (.ireturn, 1) := by decide +kernel
theorem dL_setPort_21 : decode cL_setPort 21 = .ok (.iconst 0, 1) := by decide +kernel
theorem dL_setPort_22 : decode cL_setPort 22 = .ok (.ireturn, 1) := by decide +kernel
theorem dL_setOn_0 : decode cL_setOn 0 = .ok (.aload 4, 2) := by decide +kernel
theorem dL_setOn_2 : decode cL_setOn 2 = .ok (.iconst 0, 1) := by decide +kernel
theorem dL_setOn_3 : decode cL_setOn 3 = .ok (.aload_n 0, 1) := by decide +kernel
theorem dL_setOn_4 : decode cL_setOn 4 = .ok (.iload_n 1, 1) := by decide +kernel
theorem dL_setOn_5 : decode cL_setOn 5 = .ok (.iload_n 2, 1) := by decide +kernel
theorem dL_setOn_6 : decode cL_setOn 6 = .ok (.iload_n 3, 1) := by decide +kernel
theorem dL_setOn_7 : decode cL_setOn 7 = .ok (.invokevirtual 112, 3) := by decide +kernel
theorem dL_setOn_10 : decode cL_setOn 10 = .ok (.i2l, 1) := by decide +kernel
theorem dL_setOn_11 : decode cL_setOn 11 = .ok (.lastore, 1) := by decide +kernel
theorem dL_setOn_12 : decode cL_setOn 12 = .ok (.goto 7, 3) := by decide +kernel
theorem dL_setOn_15 : decode cL_setOn 15 = .ok (.astore 5, 2) := by decide +kernel
theorem dL_setOn_17 : decode cL_setOn 17 = .ok (.iconst 1, 1) := by decide +kernel
theorem dL_setOn_18 : decode cL_setOn 18 = .ok (.ireturn, 1) := by decide +kernel
theorem dL_setOn_19 : decode cL_setOn 19 = .ok (.iconst 0, 1) := by decide +kernel
theorem dL_setOn_20 : decode cL_setOn 20 = .ok (.ireturn, 1) := by decide +kernel
theorem dL_setSide_0 : decode cL_setSide 0 = .ok (.aload_n 3, 1) := by decide +kernel
theorem dL_setSide_1 : decode cL_setSide 1 = .ok (.iconst 0, 1) := by decide +kernel
theorem dL_setSide_2 : decode cL_setSide 2 = .ok (.aload_n 0, 1) := by decide +kernel
theorem dL_setSide_3 : decode cL_setSide 3 = .ok (.iload_n 1, 1) := by decide +kernel
theorem dL_setSide_4 : decode cL_setSide 4 = .ok (.iload_n 2, 1) := by decide +kernel
theorem dL_setSide_5 : decode cL_setSide 5 = .ok (.invokevirtual 116, 3) := by decide +kernel
theorem dL_setSide_8 : decode cL_setSide 8 = .ok (.i2l, 1) := by decide +kernel
theorem dL_setSide_9 : decode cL_setSide 9 = .ok (.lastore, 1) := by decide +kernel
theorem dL_setSide_10 : decode cL_setSide 10 = .ok (.goto 11, 3) := by decide +kernel
theorem dL_setSide_13 : decode cL_setSide 13 = .ok (.astore 4, 2) := by decide +kernel
theorem dL_setSide_15 : decode cL_setSide 15 = .ok (.iconst 1, 1) := by decide +kernel
theorem dL_setSide_16 : decode cL_setSide 16 = .ok (.ireturn, 1) := by decide +kernel
theorem dL_setSide_17 : decode cL_setSide 17 = .ok (.astore 4, 2) := by decide +kernel
theorem dL_setSide_19 : decode cL_setSide 19 = .ok (.iconst 2, 1) := by decide +kernel
theorem dL_setSide_20 : decode cL_setSide 20 = .ok (.ireturn, 1) := by decide +kernel
theorem dL_setSide_21 : decode cL_setSide 21 = .ok (.iconst 0, 1) := by decide +kernel
theorem dL_setSide_22 : decode cL_setSide 22 = .ok (.ireturn, 1) := by decide +kernel
theorem dL_browse_0 : decode cL_browse 0 = .ok (.aload 4, 2) := by decide +kernel
theorem dL_browse_2 : decode cL_browse 2 = .ok (.iconst 0, 1) := by decide +kernel
theorem dL_browse_3 : decode cL_browse 3 = .ok (.aload_n 0, 1) := by decide +kernel
theorem dL_browse_4 : decode cL_browse 4 = .ok (.iload_n 1, 1) := by decide +kernel
theorem dL_browse_5 : decode cL_browse 5 = .ok (.iload_n 2, 1) := by decide +kernel
theorem dL_browse_6 : decode cL_browse 6 = .ok (.iload_n 3, 1) := by decide +kernel
theorem dL_browse_7 : decode cL_browse 7 = .ok (.invokevirtual 119, 3) := by decide +kernel
theorem dL_browse_10 : decode cL_browse 10 = .ok (.i2l, 1) := by decide +kernel
theorem dL_browse_11 : decode cL_browse 11 = .ok (.lastore, 1) := by decide +kernel
theorem dL_browse_12 : decode cL_browse 12 = .ok (.goto 11, 3) := by decide +kernel
theorem dL_browse_15 : decode cL_browse 15 = .ok (.astore 5, 2) := by decide +kernel
theorem dL_browse_17 : decode cL_browse 17 = .ok (.iconst 1, 1) := by decide +kernel
theorem dL_browse_18 : decode cL_browse 18 = .ok (.ireturn, 1) := by decide +kernel
theorem dL_browse_23 : decode cL_browse 23 = .ok (.iconst 0, 1) := by decide +kernel
theorem dL_browse_24 : decode cL_browse 24 = .ok (.ireturn, 1) := by decide +kernel
theorem dL_mark_0 : decode cL_mark 0 = .ok (.aload_n 2, 1) := by decide +kernel
theorem dL_mark_1 : decode cL_mark 1 = .ok (.iconst 0, 1) := by decide +kernel
theorem dL_mark_2 : decode cL_mark 2 = .ok (.aload_n 0, 1) := by decide +kernel
theorem dL_mark_3 : decode cL_mark 3 = .ok (.iload_n 1, 1) := by decide +kernel
theorem dL_mark_4 : decode cL_mark 4 = .ok (.invokevirtual 123, 3) := by decide +kernel
theorem dL_mark_7 : decode cL_mark 7 = .ok (.i2l, 1) := by decide +kernel
theorem dL_mark_8 : decode cL_mark 8 = .ok (.lastore, 1) := by decide +kernel
theorem dL_mark_9 : decode cL_mark 9 = .ok (.goto 9, 3) := by decide +kernel
theorem dL_mark_12 : decode cL_mark 12 = .ok (.astore_n 3, 1) := by decide +kernel
theorem dL_mark_13 : decode cL_mark 13 = .ok (.iconst 1, 1) := by decide +kernel
theorem dL_mark_14 : decode cL_mark 14 = .ok (.ireturn, 1) := by decide +kernel
theorem dL_mark_18 : decode cL_mark 18 = .ok (.iconst 0, 1) := by decide +kernel
theorem dL_mark_19 : decode cL_mark 19 = .ok (.ireturn, 1) := by decide +kernel
theorem dL_undo_0 : decode cL_undo 0 = .ok (.aload_n 1, 1) := by decide +kernel
theorem dL_undo_1 : decode cL_undo 1 = .ok (.iconst 0, 1) := by decide +kernel
theorem dL_undo_2 : decode cL_undo 2 = .ok (.aload_n 0, 1) := by decide +kernel
theorem dL_undo_3 : decode cL_undo 3 = .ok (.invokevirtual 126, 3) := by decide +kernel
theorem dL_undo_6 : decode cL_undo 6 = .ok (.i2l, 1) := by decide +kernel
theorem dL_undo_7 : decode cL_undo 7 = .ok (.lastore, 1) := by decide +kernel
theorem dL_undo_8 : decode cL_undo 8 = .ok (.goto 6, 3) := by decide +kernel
theorem dL_undo_11 : decode cL_undo 11 = .ok (.astore_n 2, 1) := by decide +kernel
theorem dL_undo_12 : decode cL_undo 12 = .ok (.iconst 1, 1) := by decide +kernel
theorem dL_undo_13 : decode cL_undo 13 = .ok (.ireturn, 1) := by decide +kernel
theorem dL_save_0 : decode cL_save 0 = .ok (.aload_n 0, 1) := by decide +kernel
theorem dL_save_1 : decode cL_save 1 = .ok (.iload_n 1, 1) := by decide +kernel
theorem dL_save_2 : decode cL_save 2 = .ok (.invokevirtual 129, 3) := by decide +kernel
theorem dL_save_5 : decode cL_save 5 = .ok (.goto 6, 3) := by decide +kernel
theorem dL_save_8 : decode cL_save 8 = .ok (.astore_n 2, 1) := by decide +kernel
theorem dL_save_9 : decode cL_save 9 = .ok (.iconst 1, 1) := by decide +kernel
theorem dL_save_10 : decode cL_save 10 = .ok (.ireturn, 1) := by decide +kernel
theorem dL_save_11 : decode cL_save 11 = .ok (.iconst 0, 1) := by decide +kernel
theorem dL_save_12 : decode cL_save 12 = .ok (.ireturn, 1) := by decide +kernel
theorem dL_restore_0 : decode cL_restore 0 = .ok (.aload_n 0, 1) := by decide +kernel
theorem dL_restore_1 : decode cL_restore 1 = .ok (.iload_n 1, 1) := by decide +kernel
theorem dL_restore_2 : decode cL_restore 2 = .ok (.invokevirtual 133, 3) := by decide +kernel
theorem dL_restore_5 : decode cL_restore 5 = .ok (.goto 9, 3) := by decide +kernel
theorem dL_restore_8 : decode cL_restore 8 = .ok (.astore_n 2, 1) := by decide +kernel
theorem dL_restore_9 : decode cL_restore 9 = .ok (.iconst 1, 1) := by decide +kernel
theorem dL_restore_10 : decode cL_restore 10 = .ok (.ireturn, 1) := by decide +kernel
theorem dL_restore_11 : decode cL_restore 11 = .ok (.astore_n 2, 1) := by decide +kernel
theorem dL_restore_12 : decode cL_restore 12 = .ok (.iconst 2, 1) := by decide +kernel
theorem dL_restore_13 : decode cL_restore 13 = .ok (.ireturn, 1) := by decide +kernel
