theorem d_O_pass_0 : decode prog_1_method_2_code 0 = .ok (.iload_n 1, 1) := by decide +kernel
theorem d_O_pass_1 : decode prog_1_method_2_code 1 = .ok (.iconst 1, 1) := by decide +kernel
theorem d_O_pass_2 : decode prog_1_method_2_code 2 = .ok (.bipush 100, 2) := by decide +kernel
theorem d_O_pass_4 : decode prog_1_method_2_code 4 = .ok (.invokestatic 78, 3) := by decide +kernel
theorem d_O_isWithin_0 : decode prog_1_method_43_code 0 = .ok (.iload_n 0, 1) := by decide +kernel
theorem d_O_isWithin_1 : decode prog_1_method_43_code 1 = .ok (.iload_n 1, 1) := by decide +kernel
theorem d_O_isWithin_2 : decode prog_1_method_43_code 2 = .ok (.if_icmp .lt 12, 3) := by decide +kernel
theorem d_O_isWithin_14 : decode prog_1_method_43_code 14 = .ok (.iconst 0, 1) := by decide +kernel
theorem d_O_isWithin_15 : decode prog_1_method_43_code 15 = .ok (.ireturn, 1) := by decide +kernel
theorem d_O_isWithin_5 : decode prog_1_method_43_code 5 = .ok (.iload_n 0, 1) := by decide +kernel
theorem d_O_isWithin_6 : decode prog_1_method_43_code 6 = .ok (.iload_n 2, 1) := by decide +kernel
theorem d_O_isWithin_7 : decode prog_1_method_43_code 7 = .ok (.if_icmp .gt 7, 3) := by decide +kernel
theorem d_O_isWithin_10 : decode prog_1_method_43_code 10 = .ok (.iconst 1, 1) := by decide +kernel
theorem d_O_isWithin_11 : decode prog_1_method_43_code 11 = .ok (.goto 4, 3) := by decide +kernel
theorem d_O_pass_7 : decode prog_1_method_2_code 7 = .ok (.ifCond .eq 18, 3) := by decide +kernel
theorem d_O_pass_25 : decode prog_1_method_2_code 25 = .ok (.bipush (-2), 2) := by decide +kernel
theorem d_O_pass_27 : decode prog_1_method_2_code 27 = .ok (.ireturn, 1) := by decide +kernel
theorem d_O_pass_10 : decode prog_1_method_2_code 10 = .ok (.aload_n 0, 1) := by decide +kernel
theorem d_O_pass_11 : decode prog_1_method_2_code 11 = .ok (.getfield 27, 3) := by decide +kernel
theorem d_O_pass_14 : decode prog_1_method_2_code 14 = .ok (.getfield 82, 3) := by decide +kernel
theorem d_O_pass_17 : decode prog_1_method_2_code 17 = .ok (.iload_n 1, 1) := by decide +kernel
theorem d_O_pass_18 : decode prog_1_method_2_code 18 = .ok (.iadd, 1) := by decide +kernel
theorem d_O_pass_19 : decode prog_1_method_2_code 19 = .ok (.sipush 399, 3) := by decide +kernel
theorem d_O_pass_22 : decode prog_1_method_2_code 22 = .ok (.if_icmp .le 6, 3) := by decide +kernel
theorem d_O_pass_28 : decode prog_1_method_2_code 28 = .ok (.aload_n 0, 1) := by decide +kernel
theorem d_O_pass_29 : decode prog_1_method_2_code 29 = .ok (.getfield 27, 3) := by decide +kernel
theorem d_O_pass_32 : decode prog_1_method_2_code 32 = .ok (.dup, 1) := by decide +kernel
theorem d_O_pass_33 : decode prog_1_method_2_code 33 = .ok (.getfield 82, 3) := by decide +kernel
theorem d_O_pass_36 : decode prog_1_method_2_code 36 = .ok (.iload_n 1, 1) := by decide +kernel
theorem d_O_pass_37 : decode prog_1_method_2_code 37 = .ok (.iadd, 1) := by decide +kernel
theorem d_O_pass_38 : decode prog_1_method_2_code 38 = .ok (.putfield 82, 3) := by decide +kernel
theorem d_O_pass_41 : decode prog_1_method_2_code 41 = .ok (.aload_n 0, 1) := by decide +kernel
theorem d_O_pass_42 : decode prog_1_method_2_code 42 = .ok (.getfield 27, 3) := by decide +kernel
theorem d_O_pass_45 : decode prog_1_method_2_code 45 = .ok (.getfield 82, 3) := by decide +kernel
theorem d_O_pass_48 : decode prog_1_method_2_code 48 = .ok (.ireturn, 1) := by decide +kernel
theorem d_O_row_0 : decode prog_1_method_3_code 0 = .ok (.iload_n 1, 1) := by decide +kernel
theorem d_O_row_1 : decode prog_1_method_3_code 1 = .ok (.iconst 3, 1) := by decide +kernel
theorem d_O_row_2 : decode prog_1_method_3_code 2 = .ok (.invokestatic 88, 3) := by decide +kernel
theorem d_O_isBelow_0 : decode prog_1_method_44_code 0 = .ok (.iload_n 0, 1) := by decide +kernel
theorem d_O_isBelow_1 : decode prog_1_method_44_code 1 = .ok (.ifCond .lt 12, 3) := by decide +kernel
theorem d_O_isBelow_13 : decode prog_1_method_44_code 13 = .ok (.iconst 0, 1) := by decide +kernel
theorem d_O_isBelow_14 : decode prog_1_method_44_code 14 = .ok (.ireturn, 1) := by decide +kernel
theorem d_O_isBelow_4 : decode prog_1_method_44_code 4 = .ok (.iload_n 0, 1) := by decide +kernel
theorem d_O_isBelow_5 : decode prog_1_method_44_code 5 = .ok (.iload_n 1, 1) := by decide +kernel
theorem d_O_isBelow_6 : decode prog_1_method_44_code 6 = .ok (.if_icmp .ge 7, 3) := by decide +kernel
theorem d_O_isBelow_9 : decode prog_1_method_44_code 9 = .ok (.iconst 1, 1) := by decide +kernel
theorem d_O_isBelow_10 : decode prog_1_method_44_code 10 = .ok (.goto 4, 3) := by decide +kernel
theorem d_O_row_5 : decode prog_1_method_3_code 5 = .ok (.ifCond .eq 37, 3) := by decide +kernel
theorem d_O_row_42 : decode prog_1_method_3_code 42 = .ok (.bipush (-2), 2) := by decide +kernel
theorem d_O_row_44 : decode prog_1_method_3_code 44 = .ok (.ireturn, 1) := by decide +kernel
theorem d_O_row_8 : decode prog_1_method_3_code 8 = .ok (.iload_n 2, 1) := by decide +kernel
theorem d_O_row_9 : decode prog_1_method_3_code 9 = .ok (.invokestatic 92, 3) := by decide +kernel
theorem d_Sheets_isSheet_0 : decode prog_9_method_2_code 0 = .ok (.iload_n 0, 1) := by decide +kernel
theorem d_Sheets_isSheet_1 : decode prog_9_method_2_code 1 = .ok (.iconst 4, 1) := by decide +kernel
theorem d_Sheets_isSheet_2 : decode prog_9_method_2_code 2 = .ok (.invokestatic 27, 3) := by decide +kernel
theorem d_Sheets_isSheet_5 : decode prog_9_method_2_code 5 = .ok (.ireturn, 1) := by decide +kernel
theorem d_O_row_12 : decode prog_1_method_3_code 12 = .ok (.ifCond .eq 30, 3) := by decide +kernel
theorem d_O_row_15 : decode prog_1_method_3_code 15 = .ok (.iload_n 3, 1) := by decide +kernel
theorem d_O_row_16 : decode prog_1_method_3_code 16 = .ok (.ifCond .lt 26, 3) := by decide +kernel
theorem d_O_row_19 : decode prog_1_method_3_code 19 = .ok (.iload 4, 2) := by decide +kernel
theorem d_O_row_21 : decode prog_1_method_3_code 21 = .ok (.iconst 1, 1) := by decide +kernel
theorem d_O_row_22 : decode prog_1_method_3_code 22 = .ok (.bipush 10, 2) := by decide +kernel
theorem d_O_row_24 : decode prog_1_method_3_code 24 = .ok (.invokestatic 78, 3) := by decide +kernel
theorem d_O_row_27 : decode prog_1_method_3_code 27 = .ok (.ifCond .eq 15, 3) := by decide +kernel
theorem d_O_row_30 : decode prog_1_method_3_code 30 = .ok (.iload 5, 2) := by decide +kernel
theorem d_O_row_32 : decode prog_1_method_3_code 32 = .ok (.iload 6, 2) := by decide +kernel
theorem d_O_row_34 : decode prog_1_method_3_code 34 = .ok (.iload 7, 2) := by decide +kernel
theorem d_O_row_36 : decode prog_1_method_3_code 36 = .ok (.invokestatic 96, 3) := by decide +kernel
theorem d_O_areFacts_0 : decode prog_1_method_47_code 0 = .ok (.iload_n 0, 1) := by decide +kernel
theorem d_O_areFacts_1 : decode prog_1_method_47_code 1 = .ok (.iconst (-1), 1) := by decide +kernel
theorem d_O_areFacts_2 : decode prog_1_method_47_code 2 = .ok (.if_icmp .eq 16, 3) := by decide +kernel
theorem d_O_areFacts_5 : decode prog_1_method_47_code 5 = .ok (.iload_n 0, 1) := by decide +kernel
theorem d_O_areFacts_6 : decode prog_1_method_47_code 6 = .ok (.sipush 1500, 3) := by decide +kernel
theorem d_O_areFacts_9 : decode prog_1_method_47_code 9 = .ok (.sipush 1999, 3) := by decide +kernel
theorem d_O_areFacts_12 : decode prog_1_method_47_code 12 = .ok (.invokestatic 78, 3) := by decide +kernel
theorem d_O_areFacts_15 : decode prog_1_method_47_code 15 = .ok (.ifCond .eq 34, 3) := by decide +kernel
theorem d_O_areFacts_49 : decode prog_1_method_47_code 49 = .ok (.iconst 0, 1) := by decide +kernel
theorem d_O_areFacts_50 : decode prog_1_method_47_code 50 = .ok (.ireturn, 1) := by decide +kernel
theorem d_O_areFacts_18 : decode prog_1_method_47_code 18 = .ok (.iload_n 1, 1) := by decide +kernel
theorem d_O_areFacts_19 : decode prog_1_method_47_code 19 = .ok (.iconst (-1), 1) := by decide +kernel
theorem d_O_areFacts_20 : decode prog_1_method_47_code 20 = .ok (.if_icmp .eq 12, 3) := by decide +kernel
theorem d_O_areFacts_23 : decode prog_1_method_47_code 23 = .ok (.iload_n 1, 1) := by decide +kernel
theorem d_O_areFacts_24 : decode prog_1_method_47_code 24 = .ok (.bipush 8, 2) := by decide +kernel
theorem d_O_areFacts_26 : decode prog_1_method_47_code 26 = .ok (.invokestatic 88, 3) := by decide +kernel
theorem d_O_areFacts_29 : decode prog_1_method_47_code 29 = .ok (.ifCond .eq 20, 3) := by decide +kernel
theorem d_O_areFacts_32 : decode prog_1_method_47_code 32 = .ok (.iload_n 2, 1) := by decide +kernel
theorem d_O_areFacts_33 : decode prog_1_method_47_code 33 = .ok (.iconst (-1), 1) := by decide +kernel
theorem d_O_areFacts_34 : decode prog_1_method_47_code 34 = .ok (.if_icmp .eq 11, 3) := by decide +kernel
theorem d_O_areFacts_37 : decode prog_1_method_47_code 37 = .ok (.iload_n 2, 1) := by decide +kernel
theorem d_O_areFacts_38 : decode prog_1_method_47_code 38 = .ok (.iconst 2, 1) := by decide +kernel
theorem d_O_areFacts_39 : decode prog_1_method_47_code 39 = .ok (.invokestatic 88, 3) := by decide +kernel
theorem d_O_areFacts_42 : decode prog_1_method_47_code 42 = .ok (.ifCond .eq 7, 3) := by decide +kernel
theorem d_O_areFacts_45 : decode prog_1_method_47_code 45 = .ok (.iconst 1, 1) := by decide +kernel
theorem d_O_areFacts_46 : decode prog_1_method_47_code 46 = .ok (.goto 4, 3) := by decide +kernel
theorem d_O_row_39 : decode prog_1_method_3_code 39 = .ok (.ifCond .ne 6, 3) := by decide +kernel
theorem d_O_row_45 : decode prog_1_method_3_code 45 = .ok (.aload_n 0, 1) := by decide +kernel
theorem d_O_row_46 : decode prog_1_method_3_code 46 = .ok (.getfield 10, 3) := by decide +kernel
theorem d_O_row_49 : decode prog_1_method_3_code 49 = .ok (.iload_n 2, 1) := by decide +kernel
theorem d_O_row_50 : decode prog_1_method_3_code 50 = .ok (.invokevirtual 99, 3) := by decide +kernel
theorem d_Sheets_isLost_0 : decode prog_9_method_4_code 0 = .ok (.aload_n 0, 1) := by decide +kernel
theorem d_Sheets_isLost_1 : decode prog_9_method_4_code 1 = .ok (.getfield 11, 3) := by decide +kernel
theorem d_Sheets_isLost_4 : decode prog_9_method_4_code 4 = .ok (.iload_n 1, 1) := by decide +kernel
theorem d_Sheets_isLost_5 : decode prog_9_method_4_code 5 = .ok (.iaload, 1) := by decide +kernel
theorem d_Sheets_isLost_6 : decode prog_9_method_4_code 6 = .ok (.iconst (-1), 1) := by decide +kernel
theorem d_Sheets_isLost_7 : decode prog_9_method_4_code 7 = .ok (.if_icmp .ne 7, 3) := by decide +kernel
theorem d_Sheets_isLost_10 : decode prog_9_method_4_code 10 = .ok (.iconst 1, 1) := by decide +kernel
theorem d_Sheets_isLost_11 : decode prog_9_method_4_code 11 = .ok (.goto 4, 3) := by decide +kernel
theorem d_Sheets_isLost_15 : decode prog_9_method_4_code 15 = .ok (.ireturn, 1) := by decide +kernel
theorem d_Sheets_isLost_14 : decode prog_9_method_4_code 14 = .ok (.iconst 0, 1) := by decide +kernel
theorem d_O_row_53 : decode prog_1_method_3_code 53 = .ok (.ifCond .eq 12, 3) := by decide +kernel
theorem d_O_row_65 : decode prog_1_method_3_code 65 = .ok (.aload_n 0, 1) := by decide +kernel
theorem d_O_row_66 : decode prog_1_method_3_code 66 = .ok (.getfield 10, 3) := by decide +kernel
theorem d_O_row_69 : decode prog_1_method_3_code 69 = .ok (.iload_n 2, 1) := by decide +kernel
theorem d_O_row_70 : decode prog_1_method_3_code 70 = .ok (.iload_n 3, 1) := by decide +kernel
theorem d_O_row_71 : decode prog_1_method_3_code 71 = .ok (.iload 4, 2) := by decide +kernel
theorem d_O_row_73 : decode prog_1_method_3_code 73 = .ok (.invokevirtual 106, 3) := by decide +kernel
theorem d_Sheets_hasItems_0 : decode prog_9_method_7_code 0 = .ok (.iload_n 2, 1) := by decide +kernel
theorem d_Sheets_hasItems_1 : decode prog_9_method_7_code 1 = .ok (.ifCond .lt 23, 3) := by decide +kernel
theorem d_Sheets_hasItems_24 : decode prog_9_method_7_code 24 = .ok (.iconst 0, 1) := by decide +kernel
theorem d_Sheets_hasItems_25 : decode prog_9_method_7_code 25 = .ok (.ireturn, 1) := by decide +kernel
theorem d_Sheets_hasItems_4 : decode prog_9_method_7_code 4 = .ok (.iload_n 3, 1) := by decide +kernel
theorem d_Sheets_hasItems_5 : decode prog_9_method_7_code 5 = .ok (.ifCond .lt 19, 3) := by decide +kernel
theorem d_Sheets_hasItems_8 : decode prog_9_method_7_code 8 = .ok (.iload_n 2, 1) := by decide +kernel
theorem d_Sheets_hasItems_9 : decode prog_9_method_7_code 9 = .ok (.aload_n 0, 1) := by decide +kernel
theorem d_Sheets_hasItems_10 : decode prog_9_method_7_code 10 = .ok (.getfield 15, 3) := by decide +kernel
theorem d_Sheets_hasItems_13 : decode prog_9_method_7_code 13 = .ok (.iload_n 1, 1) := by decide +kernel
theorem d_Sheets_hasItems_14 : decode prog_9_method_7_code 14 = .ok (.iaload, 1) := by decide +kernel
theorem d_Sheets_hasItems_15 : decode prog_9_method_7_code 15 = .ok (.iload_n 3, 1) := by decide +kernel
theorem d_Sheets_hasItems_16 : decode prog_9_method_7_code 16 = .ok (.isub, 1) := by decide +kernel
theorem d_Sheets_hasItems_17 : decode prog_9_method_7_code 17 = .ok (.if_icmp .gt 7, 3) := by decide +kernel
theorem d_Sheets_hasItems_20 : decode prog_9_method_7_code 20 = .ok (.iconst 1, 1) := by decide +kernel
theorem d_Sheets_hasItems_21 : decode prog_9_method_7_code 21 = .ok (.goto 4, 3) := by decide +kernel
theorem d_O_row_76 : decode prog_1_method_3_code 76 = .ok (.ifCond .ne 12, 3) := by decide +kernel
theorem d_O_row_79 : decode prog_1_method_3_code 79 = .ok (.aload_n 0, 1) := by decide +kernel
theorem d_O_row_80 : decode prog_1_method_3_code 80 = .ok (.getfield 10, 3) := by decide +kernel
theorem d_O_row_83 : decode prog_1_method_3_code 83 = .ok (.iconst 2, 1) := by decide +kernel
theorem d_O_row_84 : decode prog_1_method_3_code 84 = .ok (.invokevirtual 102, 3) := by decide +kernel
theorem d_Sheets_noteFinding_0 : decode prog_9_method_10_code 0 = .ok (.aload_n 0, 1) := by decide +kernel
theorem d_Sheets_noteFinding_1 : decode prog_9_method_10_code 1 = .ok (.iload_n 1, 1) := by decide +kernel
theorem d_Sheets_noteFinding_2 : decode prog_9_method_10_code 2 = .ok (.putfield 42, 3) := by decide +kernel
theorem d_Sheets_noteFinding_5 : decode prog_9_method_10_code 5 = .ok (.bipush (-10), 2) := by decide +kernel
theorem d_Sheets_noteFinding_7 : decode prog_9_method_10_code 7 = .ok (.iload_n 1, 1) := by decide +kernel
theorem d_Sheets_noteFinding_8 : decode prog_9_method_10_code 8 = .ok (.isub, 1) := by decide +kernel
theorem d_Sheets_noteFinding_9 : decode prog_9_method_10_code 9 = .ok (.ireturn, 1) := by decide +kernel
theorem d_O_row_87 : decode prog_1_method_3_code 87 = .ok (.ireturn, 1) := by decide +kernel
theorem d_O_row_88 : decode prog_1_method_3_code 88 = .ok (.aload_n 0, 1) := by decide +kernel
theorem d_O_row_89 : decode prog_1_method_3_code 89 = .ok (.getfield 10, 3) := by decide +kernel
theorem d_O_row_92 : decode prog_1_method_3_code 92 = .ok (.iload_n 2, 1) := by decide +kernel
theorem d_O_row_93 : decode prog_1_method_3_code 93 = .ok (.iload_n 3, 1) := by decide +kernel
theorem d_O_row_94 : decode prog_1_method_3_code 94 = .ok (.iload 4, 2) := by decide +kernel
theorem d_O_row_96 : decode prog_1_method_3_code 96 = .ok (.invokevirtual 109, 3) := by decide +kernel
theorem d_Sheets_areLetters_0 : decode prog_9_method_8_code 0 = .ok (.iconst 0, 1) := by decide +kernel
theorem d_Sheets_areLetters_1 : decode prog_9_method_8_code 1 = .ok (.istore 4, 2) := by decide +kernel
theorem d_Sheets_areLetters_3 : decode prog_9_method_8_code 3 = .ok (.iload 4, 2) := by decide +kernel
theorem d_Sheets_areLetters_5 : decode prog_9_method_8_code 5 = .ok (.iload_n 3, 1) := by decide +kernel
theorem d_Sheets_areLetters_6 : decode prog_9_method_8_code 6 = .ok (.if_icmp .ge 26, 3) := by decide +kernel
theorem d_Sheets_areLetters_32 : decode prog_9_method_8_code 32 = .ok (.iconst 1, 1) := by decide +kernel
theorem d_Sheets_areLetters_33 : decode prog_9_method_8_code 33 = .ok (.ireturn, 1) := by decide +kernel
theorem d_Sheets_areLetters_9 : decode prog_9_method_8_code 9 = .ok (.aload_n 0, 1) := by decide +kernel
theorem d_Sheets_areLetters_10 : decode prog_9_method_8_code 10 = .ok (.iload_n 1, 1) := by decide +kernel
theorem d_Sheets_areLetters_11 : decode prog_9_method_8_code 11 = .ok (.iload_n 2, 1) := by decide +kernel
theorem d_Sheets_areLetters_12 : decode prog_9_method_8_code 12 = .ok (.iload 4, 2) := by decide +kernel
theorem d_Sheets_areLetters_14 : decode prog_9_method_8_code 14 = .ok (.iadd, 1) := by decide +kernel
theorem d_Sheets_areLetters_15 : decode prog_9_method_8_code 15 = .ok (.invokevirtual 31, 3) := by decide +kernel
theorem d_Sheets_itemAt_0 : decode prog_9_method_11_code 0 = .ok (.aload_n 0, 1) := by decide +kernel
theorem d_Sheets_itemAt_1 : decode prog_9_method_11_code 1 = .ok (.getfield 18, 3) := by decide +kernel
theorem d_Sheets_itemAt_4 : decode prog_9_method_11_code 4 = .ok (.iload_n 1, 1) := by decide +kernel
theorem d_Sheets_itemAt_5 : decode prog_9_method_11_code 5 = .ok (.bipush 40, 2) := by decide +kernel
theorem d_Sheets_itemAt_7 : decode prog_9_method_11_code 7 = .ok (.imul, 1) := by decide +kernel
theorem d_Sheets_itemAt_8 : decode prog_9_method_11_code 8 = .ok (.iload_n 2, 1) := by decide +kernel
theorem d_Sheets_itemAt_9 : decode prog_9_method_11_code 9 = .ok (.iadd, 1) := by decide +kernel
theorem d_Sheets_itemAt_10 : decode prog_9_method_11_code 10 = .ok (.iaload, 1) := by decide +kernel
theorem d_Sheets_itemAt_11 : decode prog_9_method_11_code 11 = .ok (.ireturn, 1) := by decide +kernel
theorem d_Sheets_areLetters_18 : decode prog_9_method_8_code 18 = .ok (.invokestatic 35, 3) := by decide +kernel
theorem d_O_isLetter_0 : decode prog_1_method_45_code 0 = .ok (.iload_n 0, 1) := by decide +kernel
theorem d_O_isLetter_1 : decode prog_1_method_45_code 1 = .ok (.bipush 97, 2) := by decide +kernel
theorem d_O_isLetter_3 : decode prog_1_method_45_code 3 = .ok (.bipush 122, 2) := by decide +kernel
theorem d_O_isLetter_5 : decode prog_1_method_45_code 5 = .ok (.invokestatic 78, 3) := by decide +kernel
theorem d_O_isLetter_8 : decode prog_1_method_45_code 8 = .ok (.ireturn, 1) := by decide +kernel
theorem d_Sheets_areLetters_21 : decode prog_9_method_8_code 21 = .ok (.ifCond .ne 5, 3) := by decide +kernel
theorem d_Sheets_areLetters_24 : decode prog_9_method_8_code 24 = .ok (.iconst 0, 1) := by decide +kernel
theorem d_Sheets_areLetters_25 : decode prog_9_method_8_code 25 = .ok (.ireturn, 1) := by decide +kernel
theorem d_Sheets_areLetters_26 : decode prog_9_method_8_code 26 = .ok (.iinc 4 1, 3) := by decide +kernel
theorem d_Sheets_areLetters_29 : decode prog_9_method_8_code 29 = .ok (.goto (-26), 3) := by decide +kernel
theorem d_O_row_99 : decode prog_1_method_3_code 99 = .ok (.ifCond .ne 6, 3) := by decide +kernel
theorem d_O_row_102 : decode prog_1_method_3_code 102 = .ok (.bipush (-3), 2) := by decide +kernel
theorem d_O_row_104 : decode prog_1_method_3_code 104 = .ok (.ireturn, 1) := by decide +kernel
theorem d_O_row_105 : decode prog_1_method_3_code 105 = .ok (.aload_n 0, 1) := by decide +kernel
theorem d_O_row_106 : decode prog_1_method_3_code 106 = .ok (.getfield 27, 3) := by decide +kernel
theorem d_O_row_109 : decode prog_1_method_3_code 109 = .ok (.getfield 112, 3) := by decide +kernel
theorem d_O_row_112 : decode prog_1_method_3_code 112 = .ok (.bipush 36, 2) := by decide +kernel
theorem d_O_row_114 : decode prog_1_method_3_code 114 = .ok (.if_icmp .lt 6, 3) := by decide +kernel
theorem d_O_row_120 : decode prog_1_method_3_code 120 = .ok (.aload_n 0, 1) := by decide +kernel
theorem d_O_row_121 : decode prog_1_method_3_code 121 = .ok (.getfield 27, 3) := by decide +kernel
theorem d_O_row_124 : decode prog_1_method_3_code 124 = .ok (.getfield 112, 3) := by decide +kernel
theorem d_O_row_127 : decode prog_1_method_3_code 127 = .ok (.istore 8, 2) := by decide +kernel
theorem d_O_row_129 : decode prog_1_method_3_code 129 = .ok (.aload_n 0, 1) := by decide +kernel
theorem d_O_row_130 : decode prog_1_method_3_code 130 = .ok (.getfield 27, 3) := by decide +kernel
theorem d_O_row_133 : decode prog_1_method_3_code 133 = .ok (.iload_n 1, 1) := by decide +kernel
theorem d_O_row_134 : decode prog_1_method_3_code 134 = .ok (.iload 5, 2) := by decide +kernel
theorem d_O_row_136 : decode prog_1_method_3_code 136 = .ok (.iload 6, 2) := by decide +kernel
theorem d_O_row_138 : decode prog_1_method_3_code 138 = .ok (.iload 7, 2) := by decide +kernel
theorem d_O_row_140 : decode prog_1_method_3_code 140 = .ok (.invokevirtual 115, 3) := by decide +kernel
theorem d_Rows_add_0 : decode prog_8_method_4_code 0 = .ok (.aload_n 0, 1) := by decide +kernel
theorem d_Rows_add_1 : decode prog_8_method_4_code 1 = .ok (.getfield 22, 3) := by decide +kernel
theorem d_Rows_add_4 : decode prog_8_method_4_code 4 = .ok (.bipush 7, 2) := by decide +kernel
theorem d_Rows_add_6 : decode prog_8_method_4_code 6 = .ok (.imul, 1) := by decide +kernel
theorem d_Rows_add_7 : decode prog_8_method_4_code 7 = .ok (.istore 5, 2) := by decide +kernel
theorem d_Rows_add_9 : decode prog_8_method_4_code 9 = .ok (.aload_n 0, 1) := by decide +kernel
theorem d_Rows_add_10 : decode prog_8_method_4_code 10 = .ok (.getfield 9, 3) := by decide +kernel
theorem d_Rows_add_13 : decode prog_8_method_4_code 13 = .ok (.iload 5, 2) := by decide +kernel
theorem d_Rows_add_15 : decode prog_8_method_4_code 15 = .ok (.iconst 0, 1) := by decide +kernel
theorem d_Rows_add_16 : decode prog_8_method_4_code 16 = .ok (.iadd, 1) := by decide +kernel
theorem d_Rows_add_17 : decode prog_8_method_4_code 17 = .ok (.iload_n 1, 1) := by decide +kernel
theorem d_Rows_add_18 : decode prog_8_method_4_code 18 = .ok (.iastore, 1) := by decide +kernel
theorem d_Rows_add_19 : decode prog_8_method_4_code 19 = .ok (.aload_n 0, 1) := by decide +kernel
theorem d_Rows_add_20 : decode prog_8_method_4_code 20 = .ok (.getfield 9, 3) := by decide +kernel
theorem d_Rows_add_23 : decode prog_8_method_4_code 23 = .ok (.iload 5, 2) := by decide +kernel
theorem d_Rows_add_25 : decode prog_8_method_4_code 25 = .ok (.iconst 1, 1) := by decide +kernel
theorem d_Rows_add_26 : decode prog_8_method_4_code 26 = .ok (.iadd, 1) := by decide +kernel
theorem d_Rows_add_27 : decode prog_8_method_4_code 27 = .ok (.iload_n 2, 1) := by decide +kernel
theorem d_Rows_add_28 : decode prog_8_method_4_code 28 = .ok (.iastore, 1) := by decide +kernel
theorem d_Rows_add_29 : decode prog_8_method_4_code 29 = .ok (.aload_n 0, 1) := by decide +kernel
theorem d_Rows_add_30 : decode prog_8_method_4_code 30 = .ok (.getfield 9, 3) := by decide +kernel
theorem d_Rows_add_33 : decode prog_8_method_4_code 33 = .ok (.iload 5, 2) := by decide +kernel
theorem d_Rows_add_35 : decode prog_8_method_4_code 35 = .ok (.iconst 2, 1) := by decide +kernel
theorem d_Rows_add_36 : decode prog_8_method_4_code 36 = .ok (.iadd, 1) := by decide +kernel
theorem d_Rows_add_37 : decode prog_8_method_4_code 37 = .ok (.iload_n 3, 1) := by decide +kernel
theorem d_Rows_add_38 : decode prog_8_method_4_code 38 = .ok (.iastore, 1) := by decide +kernel
theorem d_Rows_add_39 : decode prog_8_method_4_code 39 = .ok (.aload_n 0, 1) := by decide +kernel
theorem d_Rows_add_40 : decode prog_8_method_4_code 40 = .ok (.getfield 9, 3) := by decide +kernel
theorem d_Rows_add_43 : decode prog_8_method_4_code 43 = .ok (.iload 5, 2) := by decide +kernel
theorem d_Rows_add_45 : decode prog_8_method_4_code 45 = .ok (.iconst 3, 1) := by decide +kernel
theorem d_Rows_add_46 : decode prog_8_method_4_code 46 = .ok (.iadd, 1) := by decide +kernel
theorem d_Rows_add_47 : decode prog_8_method_4_code 47 = .ok (.iload 4, 2) := by decide +kernel
theorem d_Rows_add_49 : decode prog_8_method_4_code 49 = .ok (.iastore, 1) := by decide +kernel
theorem d_Rows_add_50 : decode prog_8_method_4_code 50 = .ok (.aload_n 0, 1) := by decide +kernel
theorem d_Rows_add_51 : decode prog_8_method_4_code 51 = .ok (.getfield 9, 3) := by decide +kernel
theorem d_Rows_add_54 : decode prog_8_method_4_code 54 = .ok (.iload 5, 2) := by decide +kernel
theorem d_Rows_add_56 : decode prog_8_method_4_code 56 = .ok (.iconst 4, 1) := by decide +kernel
theorem d_Rows_add_57 : decode prog_8_method_4_code 57 = .ok (.iadd, 1) := by decide +kernel
theorem d_Rows_add_58 : decode prog_8_method_4_code 58 = .ok (.iconst 0, 1) := by decide +kernel
theorem d_Rows_add_59 : decode prog_8_method_4_code 59 = .ok (.iastore, 1) := by decide +kernel
theorem d_Rows_add_60 : decode prog_8_method_4_code 60 = .ok (.aload_n 0, 1) := by decide +kernel
theorem d_Rows_add_61 : decode prog_8_method_4_code 61 = .ok (.getfield 9, 3) := by decide +kernel
theorem d_Rows_add_64 : decode prog_8_method_4_code 64 = .ok (.iload 5, 2) := by decide +kernel
theorem d_Rows_add_66 : decode prog_8_method_4_code 66 = .ok (.iconst 5, 1) := by decide +kernel
theorem d_Rows_add_67 : decode prog_8_method_4_code 67 = .ok (.iadd, 1) := by decide +kernel
theorem d_Rows_add_68 : decode prog_8_method_4_code 68 = .ok (.aload_n 0, 1) := by decide +kernel
theorem d_Rows_add_69 : decode prog_8_method_4_code 69 = .ok (.getfield 33, 3) := by decide +kernel
theorem d_Rows_add_72 : decode prog_8_method_4_code 72 = .ok (.iastore, 1) := by decide +kernel
theorem d_Rows_add_73 : decode prog_8_method_4_code 73 = .ok (.aload_n 0, 1) := by decide +kernel
theorem d_Rows_add_74 : decode prog_8_method_4_code 74 = .ok (.getfield 9, 3) := by decide +kernel
theorem d_Rows_add_77 : decode prog_8_method_4_code 77 = .ok (.iload 5, 2) := by decide +kernel
theorem d_Rows_add_79 : decode prog_8_method_4_code 79 = .ok (.bipush 6, 2) := by decide +kernel
theorem d_Rows_add_81 : decode prog_8_method_4_code 81 = .ok (.iadd, 1) := by decide +kernel
theorem d_Rows_add_82 : decode prog_8_method_4_code 82 = .ok (.iconst (-1), 1) := by decide +kernel
theorem d_Rows_add_83 : decode prog_8_method_4_code 83 = .ok (.iastore, 1) := by decide +kernel
theorem d_Rows_add_84 : decode prog_8_method_4_code 84 = .ok (.aload_n 0, 1) := by decide +kernel
theorem d_Rows_add_85 : decode prog_8_method_4_code 85 = .ok (.dup, 1) := by decide +kernel
theorem d_Rows_add_86 : decode prog_8_method_4_code 86 = .ok (.getfield 22, 3) := by decide +kernel
theorem d_Rows_add_89 : decode prog_8_method_4_code 89 = .ok (.iconst 1, 1) := by decide +kernel
theorem d_Rows_add_90 : decode prog_8_method_4_code 90 = .ok (.iadd, 1) := by decide +kernel
theorem d_Rows_add_91 : decode prog_8_method_4_code 91 = .ok (.putfield 22, 3) := by decide +kernel
theorem d_Rows_add_94 : decode prog_8_method_4_code 94 = .ok (.return_, 1) := by decide +kernel
theorem d_O_row_143 : decode prog_1_method_3_code 143 = .ok (.iconst 0, 1) := by decide +kernel
theorem d_O_row_144 : decode prog_1_method_3_code 144 = .ok (.istore 9, 2) := by decide +kernel
theorem d_O_row_117 : decode prog_1_method_3_code 117 = .ok (.bipush (-4), 2) := by decide +kernel
theorem d_O_row_119 : decode prog_1_method_3_code 119 = .ok (.ireturn, 1) := by decide +kernel
theorem d_O_row_56 : decode prog_1_method_3_code 56 = .ok (.aload_n 0, 1) := by decide +kernel
theorem d_O_row_57 : decode prog_1_method_3_code 57 = .ok (.getfield 10, 3) := by decide +kernel
theorem d_O_row_60 : decode prog_1_method_3_code 60 = .ok (.iconst 1, 1) := by decide +kernel
theorem d_O_row_61 : decode prog_1_method_3_code 61 = .ok (.invokevirtual 102, 3) := by decide +kernel
theorem d_O_row_64 : decode prog_1_method_3_code 64 = .ok (.ireturn, 1) := by decide +kernel
theorem d_O_row_146 : decode prog_1_method_3_code 146 = .ok (.iload 9, 2) := by decide +kernel
theorem d_O_row_148 : decode prog_1_method_3_code 148 = .ok (.iload 4, 2) := by decide +kernel
theorem d_O_row_150 : decode prog_1_method_3_code 150 = .ok (.if_icmp .ge 30, 3) := by decide +kernel
theorem d_O_row_180 : decode prog_1_method_3_code 180 = .ok (.aload_n 0, 1) := by decide +kernel
theorem d_O_row_181 : decode prog_1_method_3_code 181 = .ok (.getfield 32, 3) := by decide +kernel
theorem d_O_row_184 : decode prog_1_method_3_code 184 = .ok (.aload_n 0, 1) := by decide +kernel
theorem d_O_row_185 : decode prog_1_method_3_code 185 = .ok (.getfield 27, 3) := by decide +kernel
theorem d_O_row_188 : decode prog_1_method_3_code 188 = .ok (.iload 8, 2) := by decide +kernel
theorem d_O_row_190 : decode prog_1_method_3_code 190 = .ok (.invokevirtual 127, 3) := by decide +kernel
theorem d_Slips_learn_0 : decode prog_10_method_3_code 0 = .ok (.iconst 0, 1) := by decide +kernel
theorem d_Slips_learn_1 : decode prog_10_method_3_code 1 = .ok (.istore_n 3, 1) := by decide +kernel
theorem d_Slips_learn_2 : decode prog_10_method_3_code 2 = .ok (.iload_n 3, 1) := by decide +kernel
theorem d_Slips_learn_3 : decode prog_10_method_3_code 3 = .ok (.iload_n 2, 1) := by decide +kernel
theorem d_Slips_learn_4 : decode prog_10_method_3_code 4 = .ok (.if_icmp .ge 44, 3) := by decide +kernel
theorem d_Slips_learn_48 : decode prog_10_method_3_code 48 = .ok (.return_, 1) := by decide +kernel
theorem d_Slips_learn_7 : decode prog_10_method_3_code 7 = .ok (.aload_n 0, 1) := by decide +kernel
theorem d_Slips_learn_8 : decode prog_10_method_3_code 8 = .ok (.aload_n 1, 1) := by decide +kernel
theorem d_Slips_learn_9 : decode prog_10_method_3_code 9 = .ok (.iload_n 3, 1) := by decide +kernel
theorem d_Slips_learn_10 : decode prog_10_method_3_code 10 = .ok (.iload_n 2, 1) := by decide +kernel
theorem d_Slips_learn_11 : decode prog_10_method_3_code 11 = .ok (.invokevirtual 18, 3) := by decide +kernel
theorem d_Slips_measure_0 : decode prog_10_method_4_code 0 = .ok (.aload_n 1, 1) := by decide +kernel
theorem d_Slips_measure_1 : decode prog_10_method_4_code 1 = .ok (.iload_n 2, 1) := by decide +kernel
theorem d_Slips_measure_2 : decode prog_10_method_4_code 2 = .ok (.iconst 4, 1) := by decide +kernel
theorem d_Slips_measure_3 : decode prog_10_method_4_code 3 = .ok (.invokevirtual 22, 3) := by decide +kernel
theorem d_Rows_fact_0 : decode prog_8_method_7_code 0 = .ok (.aload_n 0, 1) := by decide +kernel
theorem d_Rows_fact_1 : decode prog_8_method_7_code 1 = .ok (.getfield 9, 3) := by decide +kernel
theorem d_Rows_fact_4 : decode prog_8_method_7_code 4 = .ok (.iload_n 1, 1) := by decide +kernel
theorem d_Rows_fact_5 : decode prog_8_method_7_code 5 = .ok (.bipush 7, 2) := by decide +kernel
theorem d_Rows_fact_7 : decode prog_8_method_7_code 7 = .ok (.imul, 1) := by decide +kernel
theorem d_Rows_fact_8 : decode prog_8_method_7_code 8 = .ok (.iload_n 2, 1) := by decide +kernel
theorem d_Rows_fact_9 : decode prog_8_method_7_code 9 = .ok (.iadd, 1) := by decide +kernel
theorem d_Rows_fact_10 : decode prog_8_method_7_code 10 = .ok (.iaload, 1) := by decide +kernel
theorem d_Rows_fact_11 : decode prog_8_method_7_code 11 = .ok (.ireturn, 1) := by decide +kernel
theorem d_Slips_measure_6 : decode prog_10_method_4_code 6 = .ok (.istore 4, 2) := by decide +kernel
theorem d_Slips_measure_8 : decode prog_10_method_4_code 8 = .ok (.aload_n 1, 1) := by decide +kernel
theorem d_Slips_measure_9 : decode prog_10_method_4_code 9 = .ok (.iload_n 3, 1) := by decide +kernel
theorem d_Slips_measure_10 : decode prog_10_method_4_code 10 = .ok (.iconst 4, 1) := by decide +kernel
theorem d_Slips_measure_11 : decode prog_10_method_4_code 11 = .ok (.invokevirtual 22, 3) := by decide +kernel
theorem d_Slips_measure_14 : decode prog_10_method_4_code 14 = .ok (.istore 5, 2) := by decide +kernel
theorem d_Slips_measure_16 : decode prog_10_method_4_code 16 = .ok (.iconst 0, 1) := by decide +kernel
theorem d_Slips_measure_17 : decode prog_10_method_4_code 17 = .ok (.istore 6, 2) := by decide +kernel
theorem d_Slips_measure_19 : decode prog_10_method_4_code 19 = .ok (.iload 6, 2) := by decide +kernel
theorem d_Slips_measure_21 : decode prog_10_method_4_code 21 = .ok (.iload 4, 2) := by decide +kernel
theorem d_Slips_measure_23 : decode prog_10_method_4_code 23 = .ok (.if_icmp .gt 21, 3) := by decide +kernel
theorem d_Slips_measure_44 : decode prog_10_method_4_code 44 = .ok (.iconst 0, 1) := by decide +kernel
theorem d_Slips_measure_45 : decode prog_10_method_4_code 45 = .ok (.istore 6, 2) := by decide +kernel
theorem d_Slips_measure_26 : decode prog_10_method_4_code 26 = .ok (.aload_n 0, 1) := by decide +kernel
theorem d_Slips_measure_27 : decode prog_10_method_4_code 27 = .ok (.getfield 15, 3) := by decide +kernel
theorem d_Slips_measure_30 : decode prog_10_method_4_code 30 = .ok (.iload 6, 2) := by decide +kernel
theorem d_Slips_measure_32 : decode prog_10_method_4_code 32 = .ok (.bipush 11, 2) := by decide +kernel
theorem d_Slips_measure_34 : decode prog_10_method_4_code 34 = .ok (.imul, 1) := by decide +kernel
theorem d_Slips_measure_35 : decode prog_10_method_4_code 35 = .ok (.iload 6, 2) := by decide +kernel
theorem d_Slips_measure_37 : decode prog_10_method_4_code 37 = .ok (.iastore, 1) := by decide +kernel
theorem d_Slips_measure_38 : decode prog_10_method_4_code 38 = .ok (.iinc 6 1, 3) := by decide +kernel
theorem d_Slips_measure_41 : decode prog_10_method_4_code 41 = .ok (.goto (-22), 3) := by decide +kernel
theorem d_Slips_measure_47 : decode prog_10_method_4_code 47 = .ok (.iload 6, 2) := by decide +kernel
theorem d_Slips_measure_49 : decode prog_10_method_4_code 49 = .ok (.iload 5, 2) := by decide +kernel
theorem d_Slips_measure_51 : decode prog_10_method_4_code 51 = .ok (.if_icmp .gt 18, 3) := by decide +kernel
theorem d_Slips_measure_69 : decode prog_10_method_4_code 69 = .ok (.iconst 1, 1) := by decide +kernel
theorem d_Slips_measure_70 : decode prog_10_method_4_code 70 = .ok (.istore 6, 2) := by decide +kernel
theorem d_Slips_measure_54 : decode prog_10_method_4_code 54 = .ok (.aload_n 0, 1) := by decide +kernel
theorem d_Slips_measure_55 : decode prog_10_method_4_code 55 = .ok (.getfield 15, 3) := by decide +kernel
theorem d_Slips_measure_58 : decode prog_10_method_4_code 58 = .ok (.iload 6, 2) := by decide +kernel
theorem d_Slips_measure_60 : decode prog_10_method_4_code 60 = .ok (.iload 6, 2) := by decide +kernel
theorem d_Slips_measure_62 : decode prog_10_method_4_code 62 = .ok (.iastore, 1) := by decide +kernel
theorem d_Slips_measure_63 : decode prog_10_method_4_code 63 = .ok (.iinc 6 1, 3) := by decide +kernel
theorem d_Slips_measure_66 : decode prog_10_method_4_code 66 = .ok (.goto (-19), 3) := by decide +kernel
theorem d_Slips_measure_72 : decode prog_10_method_4_code 72 = .ok (.iload 6, 2) := by decide +kernel
theorem d_Slips_measure_74 : decode prog_10_method_4_code 74 = .ok (.iload 4, 2) := by decide +kernel
theorem d_Slips_measure_76 : decode prog_10_method_4_code 76 = .ok (.if_icmp .gt 49, 3) := by decide +kernel
theorem d_Slips_measure_125 : decode prog_10_method_4_code 125 = .ok (.aload_n 0, 1) := by decide +kernel
theorem d_Slips_measure_126 : decode prog_10_method_4_code 126 = .ok (.getfield 15, 3) := by decide +kernel
theorem d_Slips_measure_129 : decode prog_10_method_4_code 129 = .ok (.iload 4, 2) := by decide +kernel
theorem d_Slips_measure_131 : decode prog_10_method_4_code 131 = .ok (.bipush 11, 2) := by decide +kernel
theorem d_Slips_measure_133 : decode prog_10_method_4_code 133 = .ok (.imul, 1) := by decide +kernel
theorem d_Slips_measure_134 : decode prog_10_method_4_code 134 = .ok (.iload 5, 2) := by decide +kernel
theorem d_Slips_measure_136 : decode prog_10_method_4_code 136 = .ok (.iadd, 1) := by decide +kernel
theorem d_Slips_measure_137 : decode prog_10_method_4_code 137 = .ok (.iaload, 1) := by decide +kernel
theorem d_Slips_measure_138 : decode prog_10_method_4_code 138 = .ok (.ireturn, 1) := by decide +kernel
theorem d_Slips_measure_79 : decode prog_10_method_4_code 79 = .ok (.iconst 1, 1) := by decide +kernel
theorem d_Slips_measure_80 : decode prog_10_method_4_code 80 = .ok (.istore 7, 2) := by decide +kernel
theorem d_Slips_measure_82 : decode prog_10_method_4_code 82 = .ok (.iload 7, 2) := by decide +kernel
theorem d_Slips_measure_84 : decode prog_10_method_4_code 84 = .ok (.iload 5, 2) := by decide +kernel
theorem d_Slips_measure_86 : decode prog_10_method_4_code 86 = .ok (.if_icmp .gt 33, 3) := by decide +kernel
theorem d_Slips_measure_119 : decode prog_10_method_4_code 119 = .ok (.iinc 6 1, 3) := by decide +kernel
theorem d_Slips_measure_122 : decode prog_10_method_4_code 122 = .ok (.goto (-50), 3) := by decide +kernel
theorem d_Slips_measure_89 : decode prog_10_method_4_code 89 = .ok (.aload_n 0, 1) := by decide +kernel
theorem d_Slips_measure_90 : decode prog_10_method_4_code 90 = .ok (.getfield 15, 3) := by decide +kernel
theorem d_Slips_measure_93 : decode prog_10_method_4_code 93 = .ok (.iload 6, 2) := by decide +kernel
theorem d_Slips_measure_95 : decode prog_10_method_4_code 95 = .ok (.bipush 11, 2) := by decide +kernel
theorem d_Slips_measure_97 : decode prog_10_method_4_code 97 = .ok (.imul, 1) := by decide +kernel
theorem d_Slips_measure_98 : decode prog_10_method_4_code 98 = .ok (.iload 7, 2) := by decide +kernel
theorem d_Slips_measure_100 : decode prog_10_method_4_code 100 = .ok (.iadd, 1) := by decide +kernel
theorem d_Slips_measure_101 : decode prog_10_method_4_code 101 = .ok (.aload_n 0, 1) := by decide +kernel
theorem d_Slips_measure_102 : decode prog_10_method_4_code 102 = .ok (.aload_n 1, 1) := by decide +kernel
theorem d_Slips_measure_103 : decode prog_10_method_4_code 103 = .ok (.iload_n 2, 1) := by decide +kernel
theorem d_Slips_measure_104 : decode prog_10_method_4_code 104 = .ok (.iload 6, 2) := by decide +kernel
theorem d_Slips_measure_106 : decode prog_10_method_4_code 106 = .ok (.iload_n 3, 1) := by decide +kernel
theorem d_Slips_measure_107 : decode prog_10_method_4_code 107 = .ok (.iload 7, 2) := by decide +kernel
theorem d_Slips_measure_109 : decode prog_10_method_4_code 109 = .ok (.invokevirtual 28, 3) := by decide +kernel
theorem d_Slips_fewestSteps_0 : decode prog_10_method_5_code 0 = .ok (.aload_n 1, 1) := by decide +kernel
theorem d_Slips_fewestSteps_1 : decode prog_10_method_5_code 1 = .ok (.iload_n 2, 1) := by decide +kernel
theorem d_Slips_fewestSteps_2 : decode prog_10_method_5_code 2 = .ok (.iload_n 3, 1) := by decide +kernel
theorem d_Slips_fewestSteps_3 : decode prog_10_method_5_code 3 = .ok (.iconst 1, 1) := by decide +kernel
theorem d_Slips_fewestSteps_4 : decode prog_10_method_5_code 4 = .ok (.isub, 1) := by decide +kernel
theorem d_Slips_fewestSteps_5 : decode prog_10_method_5_code 5 = .ok (.invokevirtual 32, 3) := by decide +kernel
theorem d_Rows_letterAt_0 : decode prog_8_method_8_code 0 = .ok (.aload_n 0, 1) := by decide +kernel
theorem d_Rows_letterAt_1 : decode prog_8_method_8_code 1 = .ok (.getfield 15, 3) := by decide +kernel
theorem d_Rows_letterAt_4 : decode prog_8_method_8_code 4 = .ok (.iload_n 1, 1) := by decide +kernel
theorem d_Rows_letterAt_5 : decode prog_8_method_8_code 5 = .ok (.bipush 10, 2) := by decide +kernel
theorem d_Rows_letterAt_7 : decode prog_8_method_8_code 7 = .ok (.imul, 1) := by decide +kernel
theorem d_Rows_letterAt_8 : decode prog_8_method_8_code 8 = .ok (.iload_n 2, 1) := by decide +kernel
theorem d_Rows_letterAt_9 : decode prog_8_method_8_code 9 = .ok (.iadd, 1) := by decide +kernel
theorem d_Rows_letterAt_10 : decode prog_8_method_8_code 10 = .ok (.iaload, 1) := by decide +kernel
theorem d_Rows_letterAt_11 : decode prog_8_method_8_code 11 = .ok (.ireturn, 1) := by decide +kernel
theorem d_Slips_fewestSteps_8 : decode prog_10_method_5_code 8 = .ok (.istore 6, 2) := by decide +kernel
theorem d_Slips_fewestSteps_10 : decode prog_10_method_5_code 10 = .ok (.aload_n 1, 1) := by decide +kernel
theorem d_Slips_fewestSteps_11 : decode prog_10_method_5_code 11 = .ok (.iload 4, 2) := by decide +kernel
theorem d_Slips_fewestSteps_13 : decode prog_10_method_5_code 13 = .ok (.iload 5, 2) := by decide +kernel
theorem d_Slips_fewestSteps_15 : decode prog_10_method_5_code 15 = .ok (.iconst 1, 1) := by decide +kernel
theorem d_Slips_fewestSteps_16 : decode prog_10_method_5_code 16 = .ok (.isub, 1) := by decide +kernel
theorem d_Slips_fewestSteps_17 : decode prog_10_method_5_code 17 = .ok (.invokevirtual 32, 3) := by decide +kernel
theorem d_Slips_fewestSteps_20 : decode prog_10_method_5_code 20 = .ok (.istore 7, 2) := by decide +kernel
theorem d_Slips_fewestSteps_22 : decode prog_10_method_5_code 22 = .ok (.iload_n 3, 1) := by decide +kernel
theorem d_Slips_fewestSteps_23 : decode prog_10_method_5_code 23 = .ok (.bipush 11, 2) := by decide +kernel
theorem d_Slips_fewestSteps_25 : decode prog_10_method_5_code 25 = .ok (.imul, 1) := by decide +kernel
theorem d_Slips_fewestSteps_26 : decode prog_10_method_5_code 26 = .ok (.iload 5, 2) := by decide +kernel
theorem d_Slips_fewestSteps_28 : decode prog_10_method_5_code 28 = .ok (.iadd, 1) := by decide +kernel
theorem d_Slips_fewestSteps_29 : decode prog_10_method_5_code 29 = .ok (.istore 8, 2) := by decide +kernel
theorem d_Slips_fewestSteps_31 : decode prog_10_method_5_code 31 = .ok (.aload_n 0, 1) := by decide +kernel
theorem d_Slips_fewestSteps_32 : decode prog_10_method_5_code 32 = .ok (.getfield 15, 3) := by decide +kernel
theorem d_Slips_fewestSteps_35 : decode prog_10_method_5_code 35 = .ok (.iload 8, 2) := by decide +kernel
theorem d_Slips_fewestSteps_37 : decode prog_10_method_5_code 37 = .ok (.bipush 11, 2) := by decide +kernel
theorem d_Slips_fewestSteps_39 : decode prog_10_method_5_code 39 = .ok (.isub, 1) := by decide +kernel
theorem d_Slips_fewestSteps_40 : decode prog_10_method_5_code 40 = .ok (.iaload, 1) := by decide +kernel
theorem d_Slips_fewestSteps_41 : decode prog_10_method_5_code 41 = .ok (.aload_n 0, 1) := by decide +kernel
theorem d_Slips_fewestSteps_42 : decode prog_10_method_5_code 42 = .ok (.getfield 15, 3) := by decide +kernel
theorem d_Slips_fewestSteps_45 : decode prog_10_method_5_code 45 = .ok (.iload 8, 2) := by decide +kernel
theorem d_Slips_fewestSteps_47 : decode prog_10_method_5_code 47 = .ok (.iconst 1, 1) := by decide +kernel
theorem d_Slips_fewestSteps_48 : decode prog_10_method_5_code 48 = .ok (.isub, 1) := by decide +kernel
theorem d_Slips_fewestSteps_49 : decode prog_10_method_5_code 49 = .ok (.iaload, 1) := by decide +kernel
theorem d_Slips_fewestSteps_50 : decode prog_10_method_5_code 50 = .ok (.invokestatic 35, 3) := by decide +kernel
theorem d_Slips_fewestSteps_53 : decode prog_10_method_5_code 53 = .ok (.iconst 1, 1) := by decide +kernel
theorem d_Slips_fewestSteps_54 : decode prog_10_method_5_code 54 = .ok (.iadd, 1) := by decide +kernel
theorem d_Slips_fewestSteps_55 : decode prog_10_method_5_code 55 = .ok (.istore 9, 2) := by decide +kernel
theorem d_Slips_fewestSteps_57 : decode prog_10_method_5_code 57 = .ok (.iload 9, 2) := by decide +kernel
theorem d_Slips_fewestSteps_59 : decode prog_10_method_5_code 59 = .ok (.aload_n 0, 1) := by decide +kernel
theorem d_Slips_fewestSteps_60 : decode prog_10_method_5_code 60 = .ok (.getfield 15, 3) := by decide +kernel
theorem d_Slips_fewestSteps_63 : decode prog_10_method_5_code 63 = .ok (.iload 8, 2) := by decide +kernel
theorem d_Slips_fewestSteps_65 : decode prog_10_method_5_code 65 = .ok (.bipush 11, 2) := by decide +kernel
theorem d_Slips_fewestSteps_67 : decode prog_10_method_5_code 67 = .ok (.isub, 1) := by decide +kernel
theorem d_Slips_fewestSteps_68 : decode prog_10_method_5_code 68 = .ok (.iconst 1, 1) := by decide +kernel
theorem d_Slips_fewestSteps_69 : decode prog_10_method_5_code 69 = .ok (.isub, 1) := by decide +kernel
theorem d_Slips_fewestSteps_70 : decode prog_10_method_5_code 70 = .ok (.iaload, 1) := by decide +kernel
theorem d_Slips_fewestSteps_71 : decode prog_10_method_5_code 71 = .ok (.iload 6, 2) := by decide +kernel
theorem d_Slips_fewestSteps_73 : decode prog_10_method_5_code 73 = .ok (.iload 7, 2) := by decide +kernel
theorem d_Slips_fewestSteps_75 : decode prog_10_method_5_code 75 = .ok (.if_icmp .ne 7, 3) := by decide +kernel
theorem d_Slips_fewestSteps_78 : decode prog_10_method_5_code 78 = .ok (.iconst 0, 1) := by decide +kernel
theorem d_Slips_fewestSteps_79 : decode prog_10_method_5_code 79 = .ok (.goto 4, 3) := by decide +kernel
theorem d_Slips_fewestSteps_82 : decode prog_10_method_5_code 82 = .ok (.iconst 1, 1) := by decide +kernel
theorem d_Slips_fewestSteps_83 : decode prog_10_method_5_code 83 = .ok (.iadd, 1) := by decide +kernel
theorem d_Slips_fewestSteps_84 : decode prog_10_method_5_code 84 = .ok (.invokestatic 35, 3) := by decide +kernel
theorem d_Slips_fewestSteps_87 : decode prog_10_method_5_code 87 = .ok (.istore 9, 2) := by decide +kernel
theorem d_Slips_fewestSteps_89 : decode prog_10_method_5_code 89 = .ok (.iload_n 3, 1) := by decide +kernel
theorem d_Slips_fewestSteps_90 : decode prog_10_method_5_code 90 = .ok (.iconst 1, 1) := by decide +kernel
theorem d_Slips_fewestSteps_91 : decode prog_10_method_5_code 91 = .ok (.if_icmp .le 58, 3) := by decide +kernel
theorem d_Slips_fewestSteps_149 : decode prog_10_method_5_code 149 = .ok (.iload 9, 2) := by decide +kernel
theorem d_Slips_fewestSteps_151 : decode prog_10_method_5_code 151 = .ok (.ireturn, 1) := by decide +kernel
theorem d_Slips_fewestSteps_94 : decode prog_10_method_5_code 94 = .ok (.iload 5, 2) := by decide +kernel
theorem d_Slips_fewestSteps_96 : decode prog_10_method_5_code 96 = .ok (.iconst 1, 1) := by decide +kernel
theorem d_Slips_fewestSteps_97 : decode prog_10_method_5_code 97 = .ok (.if_icmp .le 52, 3) := by decide +kernel
theorem d_Slips_fewestSteps_100 : decode prog_10_method_5_code 100 = .ok (.iload 6, 2) := by decide +kernel
theorem d_Slips_fewestSteps_102 : decode prog_10_method_5_code 102 = .ok (.aload_n 1, 1) := by decide +kernel
theorem d_Slips_fewestSteps_103 : decode prog_10_method_5_code 103 = .ok (.iload 4, 2) := by decide +kernel
theorem d_Slips_fewestSteps_105 : decode prog_10_method_5_code 105 = .ok (.iload 5, 2) := by decide +kernel
theorem d_Slips_fewestSteps_107 : decode prog_10_method_5_code 107 = .ok (.iconst 2, 1) := by decide +kernel
theorem d_Slips_fewestSteps_108 : decode prog_10_method_5_code 108 = .ok (.isub, 1) := by decide +kernel
theorem d_Slips_fewestSteps_109 : decode prog_10_method_5_code 109 = .ok (.invokevirtual 32, 3) := by decide +kernel
theorem d_Slips_fewestSteps_112 : decode prog_10_method_5_code 112 = .ok (.if_icmp .ne 37, 3) := by decide +kernel
theorem d_Slips_fewestSteps_115 : decode prog_10_method_5_code 115 = .ok (.iload 7, 2) := by decide +kernel
theorem d_Slips_fewestSteps_117 : decode prog_10_method_5_code 117 = .ok (.aload_n 1, 1) := by decide +kernel
theorem d_Slips_fewestSteps_118 : decode prog_10_method_5_code 118 = .ok (.iload_n 2, 1) := by decide +kernel
theorem d_Slips_fewestSteps_119 : decode prog_10_method_5_code 119 = .ok (.iload_n 3, 1) := by decide +kernel
theorem d_Slips_fewestSteps_120 : decode prog_10_method_5_code 120 = .ok (.iconst 2, 1) := by decide +kernel
theorem d_Slips_fewestSteps_121 : decode prog_10_method_5_code 121 = .ok (.isub, 1) := by decide +kernel
theorem d_Slips_fewestSteps_122 : decode prog_10_method_5_code 122 = .ok (.invokevirtual 32, 3) := by decide +kernel
theorem d_Slips_fewestSteps_125 : decode prog_10_method_5_code 125 = .ok (.if_icmp .ne 24, 3) := by decide +kernel
theorem d_Slips_fewestSteps_128 : decode prog_10_method_5_code 128 = .ok (.iload 9, 2) := by decide +kernel
theorem d_Slips_fewestSteps_130 : decode prog_10_method_5_code 130 = .ok (.aload_n 0, 1) := by decide +kernel
theorem d_Slips_fewestSteps_131 : decode prog_10_method_5_code 131 = .ok (.getfield 15, 3) := by decide +kernel
theorem d_Slips_fewestSteps_134 : decode prog_10_method_5_code 134 = .ok (.iload 8, 2) := by decide +kernel
theorem d_Slips_fewestSteps_136 : decode prog_10_method_5_code 136 = .ok (.bipush 22, 2) := by decide +kernel
theorem d_Slips_fewestSteps_138 : decode prog_10_method_5_code 138 = .ok (.isub, 1) := by decide +kernel
theorem d_Slips_fewestSteps_139 : decode prog_10_method_5_code 139 = .ok (.iconst 2, 1) := by decide +kernel
theorem d_Slips_fewestSteps_140 : decode prog_10_method_5_code 140 = .ok (.isub, 1) := by decide +kernel
theorem d_Slips_fewestSteps_141 : decode prog_10_method_5_code 141 = .ok (.iaload, 1) := by decide +kernel
theorem d_Slips_fewestSteps_142 : decode prog_10_method_5_code 142 = .ok (.iconst 1, 1) := by decide +kernel
theorem d_Slips_fewestSteps_143 : decode prog_10_method_5_code 143 = .ok (.iadd, 1) := by decide +kernel
theorem d_Slips_fewestSteps_144 : decode prog_10_method_5_code 144 = .ok (.invokestatic 35, 3) := by decide +kernel
theorem d_Slips_fewestSteps_147 : decode prog_10_method_5_code 147 = .ok (.istore 9, 2) := by decide +kernel
theorem d_Slips_measure_112 : decode prog_10_method_4_code 112 = .ok (.iastore, 1) := by decide +kernel
theorem d_Slips_measure_113 : decode prog_10_method_4_code 113 = .ok (.iinc 7 1, 3) := by decide +kernel
theorem d_Slips_measure_116 : decode prog_10_method_4_code 116 = .ok (.goto (-34), 3) := by decide +kernel
theorem d_Slips_learn_14 : decode prog_10_method_3_code 14 = .ok (.istore 4, 2) := by decide +kernel
theorem d_Slips_learn_16 : decode prog_10_method_3_code 16 = .ok (.aload_n 0, 1) := by decide +kernel
theorem d_Slips_learn_17 : decode prog_10_method_3_code 17 = .ok (.getfield 9, 3) := by decide +kernel
theorem d_Slips_learn_20 : decode prog_10_method_3_code 20 = .ok (.iload_n 3, 1) := by decide +kernel
theorem d_Slips_learn_21 : decode prog_10_method_3_code 21 = .ok (.bipush 36, 2) := by decide +kernel
theorem d_Slips_learn_23 : decode prog_10_method_3_code 23 = .ok (.imul, 1) := by decide +kernel
theorem d_Slips_learn_24 : decode prog_10_method_3_code 24 = .ok (.iload_n 2, 1) := by decide +kernel
theorem d_Slips_learn_25 : decode prog_10_method_3_code 25 = .ok (.iadd, 1) := by decide +kernel
theorem d_Slips_learn_26 : decode prog_10_method_3_code 26 = .ok (.iload 4, 2) := by decide +kernel
theorem d_Slips_learn_28 : decode prog_10_method_3_code 28 = .ok (.iastore, 1) := by decide +kernel
theorem d_Slips_learn_29 : decode prog_10_method_3_code 29 = .ok (.aload_n 0, 1) := by decide +kernel
theorem d_Slips_learn_30 : decode prog_10_method_3_code 30 = .ok (.getfield 9, 3) := by decide +kernel
theorem d_Slips_learn_33 : decode prog_10_method_3_code 33 = .ok (.iload_n 2, 1) := by decide +kernel
theorem d_Slips_learn_34 : decode prog_10_method_3_code 34 = .ok (.bipush 36, 2) := by decide +kernel
theorem d_Slips_learn_36 : decode prog_10_method_3_code 36 = .ok (.imul, 1) := by decide +kernel
theorem d_Slips_learn_37 : decode prog_10_method_3_code 37 = .ok (.iload_n 3, 1) := by decide +kernel
theorem d_Slips_learn_38 : decode prog_10_method_3_code 38 = .ok (.iadd, 1) := by decide +kernel
theorem d_Slips_learn_39 : decode prog_10_method_3_code 39 = .ok (.iload 4, 2) := by decide +kernel
theorem d_Slips_learn_41 : decode prog_10_method_3_code 41 = .ok (.iastore, 1) := by decide +kernel
theorem d_Slips_learn_42 : decode prog_10_method_3_code 42 = .ok (.iinc 3 1, 3) := by decide +kernel
theorem d_Slips_learn_45 : decode prog_10_method_3_code 45 = .ok (.goto (-43), 3) := by decide +kernel
theorem d_O_row_193 : decode prog_1_method_3_code 193 = .ok (.aload_n 0, 1) := by decide +kernel
theorem d_O_row_194 : decode prog_1_method_3_code 194 = .ok (.getfield 37, 3) := by decide +kernel
theorem d_O_row_197 : decode prog_1_method_3_code 197 = .ok (.aload_n 0, 1) := by decide +kernel
theorem d_O_row_198 : decode prog_1_method_3_code 198 = .ok (.getfield 27, 3) := by decide +kernel
theorem d_O_row_201 : decode prog_1_method_3_code 201 = .ok (.iload 8, 2) := by decide +kernel
theorem d_O_row_203 : decode prog_1_method_3_code 203 = .ok (.invokevirtual 133, 3) := by decide +kernel
theorem d_Sounds_hear_0 : decode prog_11_method_8_code 0 = .ok (.iload_n 2, 1) := by decide +kernel
theorem d_Sounds_hear_1 : decode prog_11_method_8_code 1 = .ok (.bipush 10, 2) := by decide +kernel
theorem d_Sounds_hear_3 : decode prog_11_method_8_code 3 = .ok (.imul, 1) := by decide +kernel
theorem d_Sounds_hear_4 : decode prog_11_method_8_code 4 = .ok (.istore_n 3, 1) := by decide +kernel
theorem d_Sounds_hear_5 : decode prog_11_method_8_code 5 = .ok (.iconst 0, 1) := by decide +kernel
theorem d_Sounds_hear_6 : decode prog_11_method_8_code 6 = .ok (.istore 4, 2) := by decide +kernel
theorem d_Sounds_hear_8 : decode prog_11_method_8_code 8 = .ok (.aload_n 1, 1) := by decide +kernel
theorem d_Sounds_hear_9 : decode prog_11_method_8_code 9 = .ok (.iload_n 2, 1) := by decide +kernel
theorem d_Sounds_hear_10 : decode prog_11_method_8_code 10 = .ok (.iconst 4, 1) := by decide +kernel
theorem d_Sounds_hear_11 : decode prog_11_method_8_code 11 = .ok (.invokevirtual 62, 3) := by decide +kernel
theorem d_Sounds_hear_14 : decode prog_11_method_8_code 14 = .ok (.istore 5, 2) := by decide +kernel
theorem d_Sounds_hear_16 : decode prog_11_method_8_code 16 = .ok (.iconst 0, 1) := by decide +kernel
theorem d_Sounds_hear_17 : decode prog_11_method_8_code 17 = .ok (.istore 6, 2) := by decide +kernel
theorem d_Sounds_hear_19 : decode prog_11_method_8_code 19 = .ok (.iload 6, 2) := by decide +kernel
theorem d_Sounds_hear_21 : decode prog_11_method_8_code 21 = .ok (.iload 5, 2) := by decide +kernel
theorem d_Sounds_hear_23 : decode prog_11_method_8_code 23 = .ok (.if_icmp .ge 78, 3) := by decide +kernel
theorem d_Sounds_hear_101 : decode prog_11_method_8_code 101 = .ok (.aload_n 0, 1) := by decide +kernel
theorem d_Sounds_hear_102 : decode prog_11_method_8_code 102 = .ok (.getfield 21, 3) := by decide +kernel
theorem d_Sounds_hear_105 : decode prog_11_method_8_code 105 = .ok (.iload_n 2, 1) := by decide +kernel
theorem d_Sounds_hear_106 : decode prog_11_method_8_code 106 = .ok (.iload 4, 2) := by decide +kernel
theorem d_Sounds_hear_108 : decode prog_11_method_8_code 108 = .ok (.iastore, 1) := by decide +kernel
theorem d_Sounds_hear_109 : decode prog_11_method_8_code 109 = .ok (.return_, 1) := by decide +kernel
theorem d_Sounds_hear_26 : decode prog_11_method_8_code 26 = .ok (.aload_n 1, 1) := by decide +kernel
theorem d_Sounds_hear_27 : decode prog_11_method_8_code 27 = .ok (.iload_n 2, 1) := by decide +kernel
theorem d_Sounds_hear_28 : decode prog_11_method_8_code 28 = .ok (.iload 6, 2) := by decide +kernel
theorem d_Sounds_hear_30 : decode prog_11_method_8_code 30 = .ok (.invokevirtual 65, 3) := by decide +kernel
theorem d_Sounds_hear_33 : decode prog_11_method_8_code 33 = .ok (.istore 7, 2) := by decide +kernel
theorem d_Sounds_hear_35 : decode prog_11_method_8_code 35 = .ok (.iload 6, 2) := by decide +kernel
theorem d_Sounds_hear_37 : decode prog_11_method_8_code 37 = .ok (.ifCond .ne 8, 3) := by decide +kernel
theorem d_Sounds_hear_40 : decode prog_11_method_8_code 40 = .ok (.iload 7, 2) := by decide +kernel
theorem d_Sounds_hear_42 : decode prog_11_method_8_code 42 = .ok (.goto 9, 3) := by decide +kernel
theorem d_Sounds_hear_45 : decode prog_11_method_8_code 45 = .ok (.aload_n 0, 1) := by decide +kernel
theorem d_Sounds_hear_46 : decode prog_11_method_8_code 46 = .ok (.iload 7, 2) := by decide +kernel
theorem d_Sounds_hear_48 : decode prog_11_method_8_code 48 = .ok (.invokevirtual 68, 3) := by decide +kernel
theorem d_Sounds_signFor_0 : decode prog_11_method_9_code 0 = .ok (.aload_n 0, 1) := by decide +kernel
theorem d_Sounds_signFor_1 : decode prog_11_method_9_code 1 = .ok (.getfield 15, 3) := by decide +kernel
theorem d_Sounds_signFor_4 : decode prog_11_method_9_code 4 = .ok (.iload_n 1, 1) := by decide +kernel
theorem d_Sounds_signFor_5 : decode prog_11_method_9_code 5 = .ok (.bipush 97, 2) := by decide +kernel
theorem d_Sounds_signFor_7 : decode prog_11_method_9_code 7 = .ok (.isub, 1) := by decide +kernel
theorem d_Sounds_signFor_8 : decode prog_11_method_9_code 8 = .ok (.iaload, 1) := by decide +kernel
theorem d_Sounds_signFor_9 : decode prog_11_method_9_code 9 = .ok (.istore_n 2, 1) := by decide +kernel
theorem d_Sounds_signFor_10 : decode prog_11_method_9_code 10 = .ok (.iload_n 2, 1) := by decide +kernel
theorem d_Sounds_signFor_11 : decode prog_11_method_9_code 11 = .ok (.iconst (-1), 1) := by decide +kernel
theorem d_Sounds_signFor_12 : decode prog_11_method_9_code 12 = .ok (.if_icmp .ne 7, 3) := by decide +kernel
theorem d_Sounds_signFor_15 : decode prog_11_method_9_code 15 = .ok (.iload_n 1, 1) := by decide +kernel
theorem d_Sounds_signFor_16 : decode prog_11_method_9_code 16 = .ok (.goto 4, 3) := by decide +kernel
theorem d_Sounds_signFor_20 : decode prog_11_method_9_code 20 = .ok (.ireturn, 1) := by decide +kernel
theorem d_Sounds_signFor_19 : decode prog_11_method_9_code 19 = .ok (.iload_n 2, 1) := by decide +kernel
theorem d_Sounds_hear_51 : decode prog_11_method_8_code 51 = .ok (.istore 8, 2) := by decide +kernel
theorem d_Sounds_hear_53 : decode prog_11_method_8_code 53 = .ok (.iload 8, 2) := by decide +kernel
theorem d_Sounds_hear_55 : decode prog_11_method_8_code 55 = .ok (.bipush 48, 2) := by decide +kernel
theorem d_Sounds_hear_57 : decode prog_11_method_8_code 57 = .ok (.if_icmp .eq 38, 3) := by decide +kernel
theorem d_Sounds_hear_60 : decode prog_11_method_8_code 60 = .ok (.iload 4, 2) := by decide +kernel
theorem d_Sounds_hear_62 : decode prog_11_method_8_code 62 = .ok (.ifCond .eq 19, 3) := by decide +kernel
theorem d_Sounds_hear_65 : decode prog_11_method_8_code 65 = .ok (.aload_n 0, 1) := by decide +kernel
theorem d_Sounds_hear_66 : decode prog_11_method_8_code 66 = .ok (.getfield 18, 3) := by decide +kernel
theorem d_Sounds_hear_69 : decode prog_11_method_8_code 69 = .ok (.iload_n 3, 1) := by decide +kernel
theorem d_Sounds_hear_70 : decode prog_11_method_8_code 70 = .ok (.iload 4, 2) := by decide +kernel
theorem d_Sounds_hear_72 : decode prog_11_method_8_code 72 = .ok (.iadd, 1) := by decide +kernel
theorem d_Sounds_hear_73 : decode prog_11_method_8_code 73 = .ok (.iconst 1, 1) := by decide +kernel
theorem d_Sounds_hear_74 : decode prog_11_method_8_code 74 = .ok (.isub, 1) := by decide +kernel
theorem d_Sounds_hear_75 : decode prog_11_method_8_code 75 = .ok (.iaload, 1) := by decide +kernel
theorem d_Sounds_hear_76 : decode prog_11_method_8_code 76 = .ok (.iload 8, 2) := by decide +kernel
theorem d_Sounds_hear_78 : decode prog_11_method_8_code 78 = .ok (.if_icmp .eq 17, 3) := by decide +kernel
theorem d_Sounds_hear_95 : decode prog_11_method_8_code 95 = .ok (.iinc 6 1, 3) := by decide +kernel
theorem d_Sounds_hear_98 : decode prog_11_method_8_code 98 = .ok (.goto (-79), 3) := by decide +kernel
theorem d_Sounds_hear_81 : decode prog_11_method_8_code 81 = .ok (.aload_n 0, 1) := by decide +kernel
theorem d_Sounds_hear_82 : decode prog_11_method_8_code 82 = .ok (.getfield 18, 3) := by decide +kernel
theorem d_Sounds_hear_85 : decode prog_11_method_8_code 85 = .ok (.iload_n 3, 1) := by decide +kernel
theorem d_Sounds_hear_86 : decode prog_11_method_8_code 86 = .ok (.iload 4, 2) := by decide +kernel
theorem d_Sounds_hear_88 : decode prog_11_method_8_code 88 = .ok (.iadd, 1) := by decide +kernel
theorem d_Sounds_hear_89 : decode prog_11_method_8_code 89 = .ok (.iload 8, 2) := by decide +kernel
theorem d_Sounds_hear_91 : decode prog_11_method_8_code 91 = .ok (.iastore, 1) := by decide +kernel
theorem d_Sounds_hear_92 : decode prog_11_method_8_code 92 = .ok (.iinc 4 1, 3) := by decide +kernel
theorem d_O_row_206 : decode prog_1_method_3_code 206 = .ok (.iload 8, 2) := by decide +kernel
theorem d_O_row_208 : decode prog_1_method_3_code 208 = .ok (.ireturn, 1) := by decide +kernel
theorem d_O_row_153 : decode prog_1_method_3_code 153 = .ok (.aload_n 0, 1) := by decide +kernel
theorem d_O_row_154 : decode prog_1_method_3_code 154 = .ok (.getfield 27, 3) := by decide +kernel
theorem d_O_row_157 : decode prog_1_method_3_code 157 = .ok (.iload 8, 2) := by decide +kernel
theorem d_O_row_159 : decode prog_1_method_3_code 159 = .ok (.aload_n 0, 1) := by decide +kernel
theorem d_O_row_160 : decode prog_1_method_3_code 160 = .ok (.getfield 10, 3) := by decide +kernel
theorem d_O_row_163 : decode prog_1_method_3_code 163 = .ok (.iload_n 2, 1) := by decide +kernel
theorem d_O_row_164 : decode prog_1_method_3_code 164 = .ok (.iload_n 3, 1) := by decide +kernel
theorem d_O_row_165 : decode prog_1_method_3_code 165 = .ok (.iload 9, 2) := by decide +kernel
theorem d_O_row_167 : decode prog_1_method_3_code 167 = .ok (.iadd, 1) := by decide +kernel
theorem d_O_row_168 : decode prog_1_method_3_code 168 = .ok (.invokevirtual 119, 3) := by decide +kernel
theorem d_O_row_171 : decode prog_1_method_3_code 171 = .ok (.invokevirtual 123, 3) := by decide +kernel
theorem d_Rows_spell_0 : decode prog_8_method_5_code 0 = .ok (.aload_n 0, 1) := by decide +kernel
theorem d_Rows_spell_1 : decode prog_8_method_5_code 1 = .ok (.iload_n 1, 1) := by decide +kernel
theorem d_Rows_spell_2 : decode prog_8_method_5_code 2 = .ok (.iconst 4, 1) := by decide +kernel
theorem d_Rows_spell_3 : decode prog_8_method_5_code 3 = .ok (.invokevirtual 36, 3) := by decide +kernel
theorem d_Rows_spell_6 : decode prog_8_method_5_code 6 = .ok (.istore_n 3, 1) := by decide +kernel
theorem d_Rows_spell_7 : decode prog_8_method_5_code 7 = .ok (.iload_n 3, 1) := by decide +kernel
theorem d_Rows_spell_8 : decode prog_8_method_5_code 8 = .ok (.bipush 10, 2) := by decide +kernel
theorem d_Rows_spell_10 : decode prog_8_method_5_code 10 = .ok (.if_icmp .ge 29, 3) := by decide +kernel
theorem d_Rows_spell_39 : decode prog_8_method_5_code 39 = .ok (.return_, 1) := by decide +kernel
theorem d_Rows_spell_13 : decode prog_8_method_5_code 13 = .ok (.aload_n 0, 1) := by decide +kernel
theorem d_Rows_spell_14 : decode prog_8_method_5_code 14 = .ok (.getfield 15, 3) := by decide +kernel
theorem d_Rows_spell_17 : decode prog_8_method_5_code 17 = .ok (.iload_n 1, 1) := by decide +kernel
theorem d_Rows_spell_18 : decode prog_8_method_5_code 18 = .ok (.bipush 10, 2) := by decide +kernel
theorem d_Rows_spell_20 : decode prog_8_method_5_code 20 = .ok (.imul, 1) := by decide +kernel
theorem d_Rows_spell_21 : decode prog_8_method_5_code 21 = .ok (.iload_n 3, 1) := by decide +kernel
theorem d_Rows_spell_22 : decode prog_8_method_5_code 22 = .ok (.iadd, 1) := by decide +kernel
theorem d_Rows_spell_23 : decode prog_8_method_5_code 23 = .ok (.iload_n 2, 1) := by decide +kernel
theorem d_Rows_spell_24 : decode prog_8_method_5_code 24 = .ok (.iastore, 1) := by decide +kernel
theorem d_Rows_spell_25 : decode prog_8_method_5_code 25 = .ok (.aload_n 0, 1) := by decide +kernel
theorem d_Rows_spell_26 : decode prog_8_method_5_code 26 = .ok (.getfield 9, 3) := by decide +kernel
theorem d_Rows_spell_29 : decode prog_8_method_5_code 29 = .ok (.iload_n 1, 1) := by decide +kernel
theorem d_Rows_spell_30 : decode prog_8_method_5_code 30 = .ok (.bipush 7, 2) := by decide +kernel
theorem d_Rows_spell_32 : decode prog_8_method_5_code 32 = .ok (.imul, 1) := by decide +kernel
theorem d_Rows_spell_33 : decode prog_8_method_5_code 33 = .ok (.iconst 4, 1) := by decide +kernel
theorem d_Rows_spell_34 : decode prog_8_method_5_code 34 = .ok (.iadd, 1) := by decide +kernel
theorem d_Rows_spell_35 : decode prog_8_method_5_code 35 = .ok (.iload_n 3, 1) := by decide +kernel
theorem d_Rows_spell_36 : decode prog_8_method_5_code 36 = .ok (.iconst 1, 1) := by decide +kernel
theorem d_Rows_spell_37 : decode prog_8_method_5_code 37 = .ok (.iadd, 1) := by decide +kernel
theorem d_Rows_spell_38 : decode prog_8_method_5_code 38 = .ok (.iastore, 1) := by decide +kernel
theorem d_O_row_174 : decode prog_1_method_3_code 174 = .ok (.iinc 9 1, 3) := by decide +kernel
theorem d_O_row_177 : decode prog_1_method_3_code 177 = .ok (.goto (-31), 3) := by decide +kernel
theorem d_O_takeBack_0 : decode prog_1_method_4_code 0 = .ok (.aload_n 0, 1) := by decide +kernel
theorem d_O_takeBack_1 : decode prog_1_method_4_code 1 = .ok (.getfield 27, 3) := by decide +kernel
theorem d_O_takeBack_4 : decode prog_1_method_4_code 4 = .ok (.iload_n 1, 1) := by decide +kernel
theorem d_O_takeBack_5 : decode prog_1_method_4_code 5 = .ok (.invokevirtual 138, 3) := by decide +kernel
theorem d_Rows_has_0 : decode prog_8_method_2_code 0 = .ok (.iload_n 1, 1) := by decide +kernel
theorem d_Rows_has_1 : decode prog_8_method_2_code 1 = .ok (.aload_n 0, 1) := by decide +kernel
theorem d_Rows_has_2 : decode prog_8_method_2_code 2 = .ok (.getfield 22, 3) := by decide +kernel
theorem d_Rows_has_5 : decode prog_8_method_2_code 5 = .ok (.invokestatic 25, 3) := by decide +kernel
theorem d_Rows_has_8 : decode prog_8_method_2_code 8 = .ok (.ireturn, 1) := by decide +kernel
theorem d_O_takeBack_8 : decode prog_1_method_4_code 8 = .ok (.ifCond .ne 6, 3) := by decide +kernel
theorem d_O_takeBack_11 : decode prog_1_method_4_code 11 = .ok (.bipush (-2), 2) := by decide +kernel
theorem d_O_takeBack_13 : decode prog_1_method_4_code 13 = .ok (.ireturn, 1) := by decide +kernel
theorem d_O_takeBack_14 : decode prog_1_method_4_code 14 = .ok (.aload_n 0, 1) := by decide +kernel
theorem d_O_takeBack_15 : decode prog_1_method_4_code 15 = .ok (.getfield 27, 3) := by decide +kernel
theorem d_O_takeBack_18 : decode prog_1_method_4_code 18 = .ok (.iload_n 1, 1) := by decide +kernel
theorem d_O_takeBack_19 : decode prog_1_method_4_code 19 = .ok (.bipush 6, 2) := by decide +kernel
theorem d_O_takeBack_21 : decode prog_1_method_4_code 21 = .ok (.invokevirtual 141, 3) := by decide +kernel
theorem d_O_takeBack_24 : decode prog_1_method_4_code 24 = .ok (.iconst (-1), 1) := by decide +kernel
theorem d_O_takeBack_25 : decode prog_1_method_4_code 25 = .ok (.if_icmp .eq 6, 3) := by decide +kernel
theorem d_O_takeBack_31 : decode prog_1_method_4_code 31 = .ok (.aload_n 0, 1) := by decide +kernel
theorem d_O_takeBack_32 : decode prog_1_method_4_code 32 = .ok (.getfield 27, 3) := by decide +kernel
theorem d_O_takeBack_35 : decode prog_1_method_4_code 35 = .ok (.iload_n 1, 1) := by decide +kernel
theorem d_O_takeBack_36 : decode prog_1_method_4_code 36 = .ok (.invokevirtual 144, 3) := by decide +kernel
theorem d_Rows_takeAway_0 : decode prog_8_method_6_code 0 = .ok (.aload_n 0, 1) := by decide +kernel
theorem d_Rows_takeAway_1 : decode prog_8_method_6_code 1 = .ok (.getfield 9, 3) := by decide +kernel
theorem d_Rows_takeAway_4 : decode prog_8_method_6_code 4 = .ok (.iload_n 1, 1) := by decide +kernel
theorem d_Rows_takeAway_5 : decode prog_8_method_6_code 5 = .ok (.bipush 7, 2) := by decide +kernel
theorem d_Rows_takeAway_7 : decode prog_8_method_6_code 7 = .ok (.imul, 1) := by decide +kernel
theorem d_Rows_takeAway_8 : decode prog_8_method_6_code 8 = .ok (.bipush 6, 2) := by decide +kernel
theorem d_Rows_takeAway_10 : decode prog_8_method_6_code 10 = .ok (.iadd, 1) := by decide +kernel
theorem d_Rows_takeAway_11 : decode prog_8_method_6_code 11 = .ok (.aload_n 0, 1) := by decide +kernel
theorem d_Rows_takeAway_12 : decode prog_8_method_6_code 12 = .ok (.getfield 33, 3) := by decide +kernel
theorem d_Rows_takeAway_15 : decode prog_8_method_6_code 15 = .ok (.iastore, 1) := by decide +kernel
theorem d_Rows_takeAway_16 : decode prog_8_method_6_code 16 = .ok (.return_, 1) := by decide +kernel
theorem d_O_takeBack_39 : decode prog_1_method_4_code 39 = .ok (.iconst 1, 1) := by decide +kernel
theorem d_O_takeBack_40 : decode prog_1_method_4_code 40 = .ok (.ireturn, 1) := by decide +kernel
theorem d_O_takeBack_28 : decode prog_1_method_4_code 28 = .ok (.bipush (-3), 2) := by decide +kernel
theorem d_O_takeBack_30 : decode prog_1_method_4_code 30 = .ok (.ireturn, 1) := by decide +kernel
theorem d_O_about_0 : decode prog_1_method_5_code 0 = .ok (.aload_n 0, 1) := by decide +kernel
theorem d_O_about_1 : decode prog_1_method_5_code 1 = .ok (.getfield 27, 3) := by decide +kernel
theorem d_O_about_4 : decode prog_1_method_5_code 4 = .ok (.iload_n 1, 1) := by decide +kernel
theorem d_O_about_5 : decode prog_1_method_5_code 5 = .ok (.invokevirtual 138, 3) := by decide +kernel
theorem d_O_about_8 : decode prog_1_method_5_code 8 = .ok (.ifCond .eq 13, 3) := by decide +kernel
theorem d_O_about_21 : decode prog_1_method_5_code 21 = .ok (.bipush (-2), 2) := by decide +kernel
theorem d_O_about_23 : decode prog_1_method_5_code 23 = .ok (.ireturn, 1) := by decide +kernel
theorem d_O_about_11 : decode prog_1_method_5_code 11 = .ok (.iload_n 2, 1) := by decide +kernel
theorem d_O_about_12 : decode prog_1_method_5_code 12 = .ok (.iconst 0, 1) := by decide +kernel
theorem d_O_about_13 : decode prog_1_method_5_code 13 = .ok (.bipush 7, 2) := by decide +kernel
theorem d_O_about_15 : decode prog_1_method_5_code 15 = .ok (.invokestatic 78, 3) := by decide +kernel
theorem d_O_about_18 : decode prog_1_method_5_code 18 = .ok (.ifCond .ne 6, 3) := by decide +kernel
theorem d_O_about_24 : decode prog_1_method_5_code 24 = .ok (.iload_n 2, 1) := by decide +kernel
theorem d_O_about_25 : decode prog_1_method_5_code 25 = .ok (.bipush 7, 2) := by decide +kernel
theorem d_O_about_27 : decode prog_1_method_5_code 27 = .ok (.if_icmp .ne 15, 3) := by decide +kernel
theorem d_O_about_30 : decode prog_1_method_5_code 30 = .ok (.aload_n 0, 1) := by decide +kernel
theorem d_O_about_31 : decode prog_1_method_5_code 31 = .ok (.getfield 27, 3) := by decide +kernel
theorem d_O_about_34 : decode prog_1_method_5_code 34 = .ok (.iload_n 1, 1) := by decide +kernel
theorem d_O_about_35 : decode prog_1_method_5_code 35 = .ok (.invokevirtual 148, 3) := by decide +kernel
theorem d_Rows_isKnown_0 : decode prog_8_method_10_code 0 = .ok (.aload_n 0, 1) := by decide +kernel
theorem d_Rows_isKnown_1 : decode prog_8_method_10_code 1 = .ok (.getfield 18, 3) := by decide +kernel
theorem d_Rows_isKnown_4 : decode prog_8_method_10_code 4 = .ok (.iconst (-1), 1) := by decide +kernel
theorem d_Rows_isKnown_5 : decode prog_8_method_10_code 5 = .ok (.if_icmp .ne 10, 3) := by decide +kernel
theorem d_Rows_isKnown_8 : decode prog_8_method_10_code 8 = .ok (.aload_n 0, 1) := by decide +kernel
theorem d_Rows_isKnown_9 : decode prog_8_method_10_code 9 = .ok (.getfield 33, 3) := by decide +kernel
theorem d_Rows_isKnown_12 : decode prog_8_method_10_code 12 = .ok (.goto 7, 3) := by decide +kernel
theorem d_Rows_isKnown_15 : decode prog_8_method_10_code 15 = .ok (.aload_n 0, 1) := by decide +kernel
theorem d_Rows_isKnown_16 : decode prog_8_method_10_code 16 = .ok (.getfield 18, 3) := by decide +kernel
theorem d_Rows_isKnown_19 : decode prog_8_method_10_code 19 = .ok (.istore_n 2, 1) := by decide +kernel
theorem d_Rows_isKnown_20 : decode prog_8_method_10_code 20 = .ok (.aload_n 0, 1) := by decide +kernel
theorem d_Rows_isKnown_21 : decode prog_8_method_10_code 21 = .ok (.iload_n 1, 1) := by decide +kernel
theorem d_Rows_isKnown_22 : decode prog_8_method_10_code 22 = .ok (.bipush 6, 2) := by decide +kernel
theorem d_Rows_isKnown_24 : decode prog_8_method_10_code 24 = .ok (.invokevirtual 36, 3) := by decide +kernel
theorem d_Rows_isKnown_27 : decode prog_8_method_10_code 27 = .ok (.istore_n 3, 1) := by decide +kernel
theorem d_Rows_isKnown_28 : decode prog_8_method_10_code 28 = .ok (.aload_n 0, 1) := by decide +kernel
theorem d_Rows_isKnown_29 : decode prog_8_method_10_code 29 = .ok (.iload_n 1, 1) := by decide +kernel
theorem d_Rows_isKnown_30 : decode prog_8_method_10_code 30 = .ok (.iconst 5, 1) := by decide +kernel
theorem d_Rows_isKnown_31 : decode prog_8_method_10_code 31 = .ok (.invokevirtual 36, 3) := by decide +kernel
theorem d_Rows_isKnown_34 : decode prog_8_method_10_code 34 = .ok (.iload_n 2, 1) := by decide +kernel
theorem d_Rows_isKnown_35 : decode prog_8_method_10_code 35 = .ok (.if_icmp .gt 17, 3) := by decide +kernel
theorem d_Rows_isKnown_52 : decode prog_8_method_10_code 52 = .ok (.iconst 0, 1) := by decide +kernel
theorem d_Rows_isKnown_53 : decode prog_8_method_10_code 53 = .ok (.ireturn, 1) := by decide +kernel
theorem d_Rows_isKnown_38 : decode prog_8_method_10_code 38 = .ok (.iload_n 3, 1) := by decide +kernel
theorem d_Rows_isKnown_39 : decode prog_8_method_10_code 39 = .ok (.iconst (-1), 1) := by decide +kernel
theorem d_Rows_isKnown_40 : decode prog_8_method_10_code 40 = .ok (.if_icmp .eq 8, 3) := by decide +kernel
theorem d_Rows_isKnown_43 : decode prog_8_method_10_code 43 = .ok (.iload_n 3, 1) := by decide +kernel
theorem d_Rows_isKnown_44 : decode prog_8_method_10_code 44 = .ok (.iload_n 2, 1) := by decide +kernel
theorem d_Rows_isKnown_45 : decode prog_8_method_10_code 45 = .ok (.if_icmp .le 7, 3) := by decide +kernel
theorem d_Rows_isKnown_48 : decode prog_8_method_10_code 48 = .ok (.iconst 1, 1) := by decide +kernel
theorem d_Rows_isKnown_49 : decode prog_8_method_10_code 49 = .ok (.goto 4, 3) := by decide +kernel
theorem d_O_about_38 : decode prog_1_method_5_code 38 = .ok (.invokestatic 151, 3) := by decide +kernel
theorem d_O_asInt_0 : decode prog_1_method_48_code 0 = .ok (.iload_n 0, 1) := by decide +kernel
theorem d_O_asInt_1 : decode prog_1_method_48_code 1 = .ok (.ifCond .eq 7, 3) := by decide +kernel
theorem d_O_asInt_8 : decode prog_1_method_48_code 8 = .ok (.iconst 0, 1) := by decide +kernel
theorem d_O_asInt_9 : decode prog_1_method_48_code 9 = .ok (.ireturn, 1) := by decide +kernel
theorem d_O_asInt_4 : decode prog_1_method_48_code 4 = .ok (.iconst 1, 1) := by decide +kernel
theorem d_O_asInt_5 : decode prog_1_method_48_code 5 = .ok (.goto 4, 3) := by decide +kernel
theorem d_O_about_41 : decode prog_1_method_5_code 41 = .ok (.ireturn, 1) := by decide +kernel
theorem d_O_about_42 : decode prog_1_method_5_code 42 = .ok (.aload_n 0, 1) := by decide +kernel
theorem d_O_about_43 : decode prog_1_method_5_code 43 = .ok (.getfield 27, 3) := by decide +kernel
theorem d_O_about_46 : decode prog_1_method_5_code 46 = .ok (.iload_n 1, 1) := by decide +kernel
theorem d_O_about_47 : decode prog_1_method_5_code 47 = .ok (.iload_n 2, 1) := by decide +kernel
theorem d_O_about_48 : decode prog_1_method_5_code 48 = .ok (.invokevirtual 141, 3) := by decide +kernel
theorem d_O_about_51 : decode prog_1_method_5_code 51 = .ok (.ireturn, 1) := by decide +kernel
theorem d_O_letter_0 : decode prog_1_method_6_code 0 = .ok (.aload_n 0, 1) := by decide +kernel
theorem d_O_letter_1 : decode prog_1_method_6_code 1 = .ok (.getfield 27, 3) := by decide +kernel
theorem d_O_letter_4 : decode prog_1_method_6_code 4 = .ok (.iload_n 1, 1) := by decide +kernel
theorem d_O_letter_5 : decode prog_1_method_6_code 5 = .ok (.invokevirtual 138, 3) := by decide +kernel
theorem d_O_letter_8 : decode prog_1_method_6_code 8 = .ok (.ifCond .eq 7, 3) := by decide +kernel
theorem d_O_letter_15 : decode prog_1_method_6_code 15 = .ok (.bipush (-2), 2) := by decide +kernel
theorem d_O_letter_17 : decode prog_1_method_6_code 17 = .ok (.ireturn, 1) := by decide +kernel
theorem d_O_letter_11 : decode prog_1_method_6_code 11 = .ok (.iload_n 2, 1) := by decide +kernel
theorem d_O_letter_12 : decode prog_1_method_6_code 12 = .ok (.ifCond .ge 6, 3) := by decide +kernel
theorem d_O_letter_18 : decode prog_1_method_6_code 18 = .ok (.iload_n 2, 1) := by decide +kernel
theorem d_O_letter_19 : decode prog_1_method_6_code 19 = .ok (.aload_n 0, 1) := by decide +kernel
theorem d_O_letter_20 : decode prog_1_method_6_code 20 = .ok (.getfield 27, 3) := by decide +kernel
theorem d_O_letter_23 : decode prog_1_method_6_code 23 = .ok (.iload_n 1, 1) := by decide +kernel
theorem d_O_letter_24 : decode prog_1_method_6_code 24 = .ok (.iconst 4, 1) := by decide +kernel
theorem d_O_letter_25 : decode prog_1_method_6_code 25 = .ok (.invokevirtual 141, 3) := by decide +kernel
theorem d_O_letter_28 : decode prog_1_method_6_code 28 = .ok (.if_icmp .lt 5, 3) := by decide +kernel
theorem d_O_letter_33 : decode prog_1_method_6_code 33 = .ok (.aload_n 0, 1) := by decide +kernel
theorem d_O_letter_34 : decode prog_1_method_6_code 34 = .ok (.getfield 27, 3) := by decide +kernel
theorem d_O_letter_37 : decode prog_1_method_6_code 37 = .ok (.iload_n 1, 1) := by decide +kernel
theorem d_O_letter_38 : decode prog_1_method_6_code 38 = .ok (.iload_n 2, 1) := by decide +kernel
theorem d_O_letter_39 : decode prog_1_method_6_code 39 = .ok (.invokevirtual 155, 3) := by decide +kernel
theorem d_O_letter_42 : decode prog_1_method_6_code 42 = .ok (.ireturn, 1) := by decide +kernel
theorem d_O_letter_31 : decode prog_1_method_6_code 31 = .ok (.iconst (-1), 1) := by decide +kernel
theorem d_O_letter_32 : decode prog_1_method_6_code 32 = .ok (.ireturn, 1) := by decide +kernel
theorem d_O_asOf_0 : decode prog_1_method_7_code 0 = .ok (.iload_n 1, 1) := by decide +kernel
theorem d_O_asOf_1 : decode prog_1_method_7_code 1 = .ok (.iconst (-1), 1) := by decide +kernel
theorem d_O_asOf_2 : decode prog_1_method_7_code 2 = .ok (.aload_n 0, 1) := by decide +kernel
theorem d_O_asOf_3 : decode prog_1_method_7_code 3 = .ok (.getfield 27, 3) := by decide +kernel
theorem d_O_asOf_6 : decode prog_1_method_7_code 6 = .ok (.getfield 82, 3) := by decide +kernel
theorem d_O_asOf_9 : decode prog_1_method_7_code 9 = .ok (.invokestatic 78, 3) := by decide +kernel
theorem d_O_asOf_12 : decode prog_1_method_7_code 12 = .ok (.ifCond .ne 6, 3) := by decide +kernel
theorem d_O_asOf_15 : decode prog_1_method_7_code 15 = .ok (.bipush (-2), 2) := by decide +kernel
theorem d_O_asOf_17 : decode prog_1_method_7_code 17 = .ok (.ireturn, 1) := by decide +kernel
theorem d_O_asOf_18 : decode prog_1_method_7_code 18 = .ok (.aload_n 0, 1) := by decide +kernel
theorem d_O_asOf_19 : decode prog_1_method_7_code 19 = .ok (.getfield 27, 3) := by decide +kernel
theorem d_O_asOf_22 : decode prog_1_method_7_code 22 = .ok (.getfield 158, 3) := by decide +kernel
theorem d_O_asOf_25 : decode prog_1_method_7_code 25 = .ok (.istore_n 2, 1) := by decide +kernel
theorem d_O_asOf_26 : decode prog_1_method_7_code 26 = .ok (.aload_n 0, 1) := by decide +kernel
theorem d_O_asOf_27 : decode prog_1_method_7_code 27 = .ok (.getfield 27, 3) := by decide +kernel
theorem d_O_asOf_30 : decode prog_1_method_7_code 30 = .ok (.iload_n 1, 1) := by decide +kernel
theorem d_O_asOf_31 : decode prog_1_method_7_code 31 = .ok (.putfield 158, 3) := by decide +kernel
theorem d_O_asOf_34 : decode prog_1_method_7_code 34 = .ok (.iload_n 2, 1) := by decide +kernel
theorem d_O_asOf_35 : decode prog_1_method_7_code 35 = .ok (.ireturn, 1) := by decide +kernel
theorem d_O_way_0 : decode prog_1_method_8_code 0 = .ok (.iload_n 1, 1) := by decide +kernel
theorem d_O_way_1 : decode prog_1_method_8_code 1 = .ok (.bipush 8, 2) := by decide +kernel
theorem d_O_way_3 : decode prog_1_method_8_code 3 = .ok (.invokestatic 88, 3) := by decide +kernel
theorem d_O_way_6 : decode prog_1_method_8_code 6 = .ok (.ifCond .eq 27, 3) := by decide +kernel
theorem d_O_way_33 : decode prog_1_method_8_code 33 = .ok (.bipush (-2), 2) := by decide +kernel
theorem d_O_way_35 : decode prog_1_method_8_code 35 = .ok (.ireturn, 1) := by decide +kernel
theorem d_O_way_9 : decode prog_1_method_8_code 9 = .ok (.iload_n 2, 1) := by decide +kernel
theorem d_O_way_10 : decode prog_1_method_8_code 10 = .ok (.bipush 8, 2) := by decide +kernel
theorem d_O_way_12 : decode prog_1_method_8_code 12 = .ok (.invokestatic 88, 3) := by decide +kernel
theorem d_O_way_15 : decode prog_1_method_8_code 15 = .ok (.ifCond .eq 18, 3) := by decide +kernel
theorem d_O_way_18 : decode prog_1_method_8_code 18 = .ok (.iload_n 1, 1) := by decide +kernel
theorem d_O_way_19 : decode prog_1_method_8_code 19 = .ok (.iload_n 2, 1) := by decide +kernel
theorem d_O_way_20 : decode prog_1_method_8_code 20 = .ok (.if_icmp .eq 13, 3) := by decide +kernel
theorem d_O_way_23 : decode prog_1_method_8_code 23 = .ok (.iload_n 3, 1) := by decide +kernel
theorem d_O_way_24 : decode prog_1_method_8_code 24 = .ok (.iconst 0, 1) := by decide +kernel
theorem d_O_way_25 : decode prog_1_method_8_code 25 = .ok (.bipush 99, 2) := by decide +kernel
theorem d_O_way_27 : decode prog_1_method_8_code 27 = .ok (.invokestatic 78, 3) := by decide +kernel
theorem d_O_way_30 : decode prog_1_method_8_code 30 = .ok (.ifCond .ne 6, 3) := by decide +kernel
theorem d_O_way_36 : decode prog_1_method_8_code 36 = .ok (.aload_n 0, 1) := by decide +kernel
theorem d_O_way_37 : decode prog_1_method_8_code 37 = .ok (.getfield 42, 3) := by decide +kernel
theorem d_O_way_40 : decode prog_1_method_8_code 40 = .ok (.iload_n 1, 1) := by decide +kernel
theorem d_O_way_41 : decode prog_1_method_8_code 41 = .ok (.iload_n 2, 1) := by decide +kernel
theorem d_O_way_42 : decode prog_1_method_8_code 42 = .ok (.iload_n 3, 1) := by decide +kernel
theorem d_O_way_43 : decode prog_1_method_8_code 43 = .ok (.invokevirtual 161, 3) := by decide +kernel
theorem d_Weights_tellWay_0 : decode prog_12_method_2_code 0 = .ok (.aload_n 0, 1) := by decide +kernel
theorem d_Weights_tellWay_1 : decode prog_12_method_2_code 1 = .ok (.getfield 9, 3) := by decide +kernel
theorem d_Weights_tellWay_4 : decode prog_12_method_2_code 4 = .ok (.iload_n 1, 1) := by decide +kernel
theorem d_Weights_tellWay_5 : decode prog_12_method_2_code 5 = .ok (.bipush 8, 2) := by decide +kernel
theorem d_Weights_tellWay_7 : decode prog_12_method_2_code 7 = .ok (.imul, 1) := by decide +kernel
theorem d_Weights_tellWay_8 : decode prog_12_method_2_code 8 = .ok (.iload_n 2, 1) := by decide +kernel
theorem d_Weights_tellWay_9 : decode prog_12_method_2_code 9 = .ok (.iadd, 1) := by decide +kernel
theorem d_Weights_tellWay_10 : decode prog_12_method_2_code 10 = .ok (.iaload, 1) := by decide +kernel
theorem d_Weights_tellWay_11 : decode prog_12_method_2_code 11 = .ok (.istore 4, 2) := by decide +kernel
theorem d_Weights_tellWay_13 : decode prog_12_method_2_code 13 = .ok (.aload_n 0, 1) := by decide +kernel
theorem d_Weights_tellWay_14 : decode prog_12_method_2_code 14 = .ok (.getfield 9, 3) := by decide +kernel
theorem d_Weights_tellWay_17 : decode prog_12_method_2_code 17 = .ok (.iload_n 1, 1) := by decide +kernel
theorem d_Weights_tellWay_18 : decode prog_12_method_2_code 18 = .ok (.bipush 8, 2) := by decide +kernel
theorem d_Weights_tellWay_20 : decode prog_12_method_2_code 20 = .ok (.imul, 1) := by decide +kernel
theorem d_Weights_tellWay_21 : decode prog_12_method_2_code 21 = .ok (.iload_n 2, 1) := by decide +kernel
theorem d_Weights_tellWay_22 : decode prog_12_method_2_code 22 = .ok (.iadd, 1) := by decide +kernel
theorem d_Weights_tellWay_23 : decode prog_12_method_2_code 23 = .ok (.iload_n 3, 1) := by decide +kernel
theorem d_Weights_tellWay_24 : decode prog_12_method_2_code 24 = .ok (.iastore, 1) := by decide +kernel
theorem d_Weights_tellWay_25 : decode prog_12_method_2_code 25 = .ok (.aload_n 0, 1) := by decide +kernel
theorem d_Weights_tellWay_26 : decode prog_12_method_2_code 26 = .ok (.getfield 9, 3) := by decide +kernel
theorem d_Weights_tellWay_29 : decode prog_12_method_2_code 29 = .ok (.iload_n 2, 1) := by decide +kernel
theorem d_Weights_tellWay_30 : decode prog_12_method_2_code 30 = .ok (.bipush 8, 2) := by decide +kernel
theorem d_Weights_tellWay_32 : decode prog_12_method_2_code 32 = .ok (.imul, 1) := by decide +kernel
theorem d_Weights_tellWay_33 : decode prog_12_method_2_code 33 = .ok (.iload_n 1, 1) := by decide +kernel
theorem d_Weights_tellWay_34 : decode prog_12_method_2_code 34 = .ok (.iadd, 1) := by decide +kernel
theorem d_Weights_tellWay_35 : decode prog_12_method_2_code 35 = .ok (.iload_n 3, 1) := by decide +kernel
theorem d_Weights_tellWay_36 : decode prog_12_method_2_code 36 = .ok (.iastore, 1) := by decide +kernel
theorem d_Weights_tellWay_37 : decode prog_12_method_2_code 37 = .ok (.iload 4, 2) := by decide +kernel
theorem d_Weights_tellWay_39 : decode prog_12_method_2_code 39 = .ok (.ireturn, 1) := by decide +kernel
theorem d_O_way_46 : decode prog_1_method_8_code 46 = .ok (.ireturn, 1) := by decide +kernel
theorem d_O_type_0 : decode prog_1_method_9_code 0 = .ok (.iload_n 1, 1) := by decide +kernel
theorem d_O_type_1 : decode prog_1_method_9_code 1 = .ok (.iconst 0, 1) := by decide +kernel
theorem d_O_type_2 : decode prog_1_method_9_code 2 = .ok (.sipush 255, 3) := by decide +kernel
theorem d_O_type_5 : decode prog_1_method_9_code 5 = .ok (.invokestatic 78, 3) := by decide +kernel
theorem d_O_type_8 : decode prog_1_method_9_code 8 = .ok (.ifCond .ne 6, 3) := by decide +kernel
theorem d_O_type_11 : decode prog_1_method_9_code 11 = .ok (.bipush (-2), 2) := by decide +kernel
theorem d_O_type_13 : decode prog_1_method_9_code 13 = .ok (.ireturn, 1) := by decide +kernel
theorem d_O_type_14 : decode prog_1_method_9_code 14 = .ok (.aload_n 0, 1) := by decide +kernel
theorem d_O_type_15 : decode prog_1_method_9_code 15 = .ok (.getfield 37, 3) := by decide +kernel
theorem d_O_type_18 : decode prog_1_method_9_code 18 = .ok (.getfield 167, 3) := by decide +kernel
theorem d_O_type_21 : decode prog_1_method_9_code 21 = .ok (.bipush 80, 2) := by decide +kernel
theorem d_O_type_23 : decode prog_1_method_9_code 23 = .ok (.if_icmp .lt 6, 3) := by decide +kernel
theorem d_O_type_29 : decode prog_1_method_9_code 29 = .ok (.aload_n 0, 1) := by decide +kernel
theorem d_O_type_30 : decode prog_1_method_9_code 30 = .ok (.getfield 37, 3) := by decide +kernel
theorem d_O_type_33 : decode prog_1_method_9_code 33 = .ok (.iload_n 1, 1) := by decide +kernel
theorem d_O_type_34 : decode prog_1_method_9_code 34 = .ok (.invokevirtual 168, 3) := by decide +kernel
theorem d_Sounds_addByte_0 : decode prog_11_method_2_code 0 = .ok (.aload_n 0, 1) := by decide +kernel
theorem d_Sounds_addByte_1 : decode prog_11_method_2_code 1 = .ok (.getfield 30, 3) := by decide +kernel
theorem d_Sounds_addByte_4 : decode prog_11_method_2_code 4 = .ok (.bipush 80, 2) := by decide +kernel
theorem d_Sounds_addByte_6 : decode prog_11_method_2_code 6 = .ok (.if_icmp .ge 27, 3) := by decide +kernel
theorem d_Sounds_addByte_33 : decode prog_11_method_2_code 33 = .ok (.return_, 1) := by decide +kernel
theorem d_Sounds_addByte_9 : decode prog_11_method_2_code 9 = .ok (.aload_n 0, 1) := by decide +kernel
theorem d_Sounds_addByte_10 : decode prog_11_method_2_code 10 = .ok (.getfield 11, 3) := by decide +kernel
theorem d_Sounds_addByte_13 : decode prog_11_method_2_code 13 = .ok (.aload_n 0, 1) := by decide +kernel
theorem d_Sounds_addByte_14 : decode prog_11_method_2_code 14 = .ok (.getfield 30, 3) := by decide +kernel
theorem d_Sounds_addByte_17 : decode prog_11_method_2_code 17 = .ok (.iload_n 1, 1) := by decide +kernel
theorem d_Sounds_addByte_18 : decode prog_11_method_2_code 18 = .ok (.iastore, 1) := by decide +kernel
theorem d_Sounds_addByte_19 : decode prog_11_method_2_code 19 = .ok (.aload_n 0, 1) := by decide +kernel
theorem d_Sounds_addByte_20 : decode prog_11_method_2_code 20 = .ok (.dup, 1) := by decide +kernel
theorem d_Sounds_addByte_21 : decode prog_11_method_2_code 21 = .ok (.getfield 30, 3) := by decide +kernel
theorem d_Sounds_addByte_24 : decode prog_11_method_2_code 24 = .ok (.iconst 1, 1) := by decide +kernel
theorem d_Sounds_addByte_25 : decode prog_11_method_2_code 25 = .ok (.iadd, 1) := by decide +kernel
theorem d_Sounds_addByte_26 : decode prog_11_method_2_code 26 = .ok (.putfield 30, 3) := by decide +kernel
theorem d_Sounds_addByte_29 : decode prog_11_method_2_code 29 = .ok (.aload_n 0, 1) := by decide +kernel
theorem d_Sounds_addByte_30 : decode prog_11_method_2_code 30 = .ok (.invokevirtual 34, 3) := by decide +kernel
theorem d_Sounds_read_0 : decode prog_11_method_4_code 0 = .ok (.aload_n 0, 1) := by decide +kernel
theorem d_Sounds_read_1 : decode prog_11_method_4_code 1 = .ok (.aload_n 0, 1) := by decide +kernel
theorem d_Sounds_read_2 : decode prog_11_method_4_code 2 = .ok (.invokevirtual 37, 3) := by decide +kernel
theorem d_Sounds_firstFault_0 : decode prog_11_method_5_code 0 = .ok (.iconst 0, 1) := by decide +kernel
theorem d_Sounds_firstFault_1 : decode prog_11_method_5_code 1 = .ok (.istore_n 1, 1) := by decide +kernel
theorem d_Sounds_firstFault_2 : decode prog_11_method_5_code 2 = .ok (.iconst 0, 1) := by decide +kernel
theorem d_Sounds_firstFault_3 : decode prog_11_method_5_code 3 = .ok (.istore_n 2, 1) := by decide +kernel
theorem d_Sounds_firstFault_4 : decode prog_11_method_5_code 4 = .ok (.iconst 0, 1) := by decide +kernel
theorem d_Sounds_firstFault_5 : decode prog_11_method_5_code 5 = .ok (.istore_n 3, 1) := by decide +kernel
theorem d_Sounds_firstFault_6 : decode prog_11_method_5_code 6 = .ok (.iload_n 3, 1) := by decide +kernel
theorem d_Sounds_firstFault_7 : decode prog_11_method_5_code 7 = .ok (.aload_n 0, 1) := by decide +kernel
theorem d_Sounds_firstFault_8 : decode prog_11_method_5_code 8 = .ok (.getfield 30, 3) := by decide +kernel
theorem d_Sounds_firstFault_11 : decode prog_11_method_5_code 11 = .ok (.if_icmp .ge 62, 3) := by decide +kernel
theorem d_Sounds_firstFault_73 : decode prog_11_method_5_code 73 = .ok (.iload_n 1, 1) := by decide +kernel
theorem d_Sounds_firstFault_74 : decode prog_11_method_5_code 74 = .ok (.iconst 3, 1) := by decide +kernel
theorem d_Sounds_firstFault_75 : decode prog_11_method_5_code 75 = .ok (.if_icmp .ne 7, 3) := by decide +kernel
theorem d_Sounds_firstFault_78 : decode prog_11_method_5_code 78 = .ok (.iconst (-1), 1) := by decide +kernel
theorem d_Sounds_firstFault_79 : decode prog_11_method_5_code 79 = .ok (.goto 7, 3) := by decide +kernel
theorem d_Sounds_firstFault_86 : decode prog_11_method_5_code 86 = .ok (.ireturn, 1) := by decide +kernel
theorem d_Sounds_firstFault_82 : decode prog_11_method_5_code 82 = .ok (.aload_n 0, 1) := by decide +kernel
theorem d_Sounds_firstFault_83 : decode prog_11_method_5_code 83 = .ok (.getfield 30, 3) := by decide +kernel
theorem d_Sounds_firstFault_14 : decode prog_11_method_5_code 14 = .ok (.aload_n 0, 1) := by decide +kernel
theorem d_Sounds_firstFault_15 : decode prog_11_method_5_code 15 = .ok (.getfield 11, 3) := by decide +kernel
theorem d_Sounds_firstFault_18 : decode prog_11_method_5_code 18 = .ok (.iload_n 3, 1) := by decide +kernel
theorem d_Sounds_firstFault_19 : decode prog_11_method_5_code 19 = .ok (.iaload, 1) := by decide +kernel
theorem d_Sounds_firstFault_20 : decode prog_11_method_5_code 20 = .ok (.istore 4, 2) := by decide +kernel
theorem d_Sounds_firstFault_22 : decode prog_11_method_5_code 22 = .ok (.iload_n 1, 1) := by decide +kernel
theorem d_Sounds_firstFault_23 : decode prog_11_method_5_code 23 = .ok (.iload 4, 2) := by decide +kernel
theorem d_Sounds_firstFault_25 : decode prog_11_method_5_code 25 = .ok (.invokestatic 51, 3) := by decide +kernel
theorem d_Sounds_dueBehind_0 : decode prog_11_method_6_code 0 = .ok (.iload_n 0, 1) := by decide +kernel
theorem d_Sounds_dueBehind_1 : decode prog_11_method_6_code 1 = .ok (.ifCond .eq 8, 3) := by decide +kernel
theorem d_Sounds_dueBehind_4 : decode prog_11_method_6_code 4 = .ok (.iload_n 0, 1) := by decide +kernel
theorem d_Sounds_dueBehind_5 : decode prog_11_method_6_code 5 = .ok (.iconst 1, 1) := by decide +kernel
theorem d_Sounds_dueBehind_6 : decode prog_11_method_6_code 6 = .ok (.if_icmp .ne 12, 3) := by decide +kernel
theorem d_Sounds_dueBehind_9 : decode prog_11_method_6_code 9 = .ok (.iload_n 1, 1) := by decide +kernel
theorem d_Sounds_dueBehind_10 : decode prog_11_method_6_code 10 = .ok (.invokestatic 48, 3) := by decide +kernel
theorem d_Sounds_dueBehind_13 : decode prog_11_method_6_code 13 = .ok (.ifCond .eq 5, 3) := by decide +kernel
theorem d_Sounds_dueBehind_16 : decode prog_11_method_6_code 16 = .ok (.iconst 1, 1) := by decide +kernel
theorem d_Sounds_dueBehind_17 : decode prog_11_method_6_code 17 = .ok (.ireturn, 1) := by decide +kernel
theorem d_Sounds_dueBehind_18 : decode prog_11_method_6_code 18 = .ok (.iload_n 0, 1) := by decide +kernel
theorem d_Sounds_dueBehind_19 : decode prog_11_method_6_code 19 = .ok (.iconst 1, 1) := by decide +kernel
theorem d_Sounds_dueBehind_20 : decode prog_11_method_6_code 20 = .ok (.if_icmp .ne 11, 3) := by decide +kernel
theorem d_Sounds_dueBehind_23 : decode prog_11_method_6_code 23 = .ok (.iload_n 1, 1) := by decide +kernel
theorem d_Sounds_dueBehind_24 : decode prog_11_method_6_code 24 = .ok (.bipush 61, 2) := by decide +kernel
theorem d_Sounds_dueBehind_26 : decode prog_11_method_6_code 26 = .ok (.if_icmp .ne 5, 3) := by decide +kernel
theorem d_Sounds_dueBehind_29 : decode prog_11_method_6_code 29 = .ok (.iconst 2, 1) := by decide +kernel
theorem d_Sounds_dueBehind_30 : decode prog_11_method_6_code 30 = .ok (.ireturn, 1) := by decide +kernel
theorem d_Sounds_dueBehind_31 : decode prog_11_method_6_code 31 = .ok (.iload_n 0, 1) := by decide +kernel
theorem d_Sounds_dueBehind_32 : decode prog_11_method_6_code 32 = .ok (.iconst 2, 1) := by decide +kernel
theorem d_Sounds_dueBehind_33 : decode prog_11_method_6_code 33 = .ok (.if_icmp .ne 12, 3) := by decide +kernel
theorem d_Sounds_dueBehind_36 : decode prog_11_method_6_code 36 = .ok (.iload_n 1, 1) := by decide +kernel
theorem d_Sounds_dueBehind_37 : decode prog_11_method_6_code 37 = .ok (.invokestatic 44, 3) := by decide +kernel
theorem d_O_isFigure_0 : decode prog_1_method_46_code 0 = .ok (.iload_n 0, 1) := by decide +kernel
theorem d_O_isFigure_1 : decode prog_1_method_46_code 1 = .ok (.bipush 48, 2) := by decide +kernel
theorem d_O_isFigure_3 : decode prog_1_method_46_code 3 = .ok (.bipush 57, 2) := by decide +kernel
theorem d_O_isFigure_5 : decode prog_1_method_46_code 5 = .ok (.invokestatic 78, 3) := by decide +kernel
theorem d_O_isFigure_8 : decode prog_1_method_46_code 8 = .ok (.ireturn, 1) := by decide +kernel
theorem d_Sounds_dueBehind_40 : decode prog_11_method_6_code 40 = .ok (.ifCond .eq 5, 3) := by decide +kernel
theorem d_Sounds_dueBehind_43 : decode prog_11_method_6_code 43 = .ok (.iconst 3, 1) := by decide +kernel
theorem d_Sounds_dueBehind_44 : decode prog_11_method_6_code 44 = .ok (.ireturn, 1) := by decide +kernel
theorem d_Sounds_dueBehind_45 : decode prog_11_method_6_code 45 = .ok (.iload_n 0, 1) := by decide +kernel
theorem d_Sounds_dueBehind_46 : decode prog_11_method_6_code 46 = .ok (.iconst 3, 1) := by decide +kernel
theorem d_Sounds_dueBehind_47 : decode prog_11_method_6_code 47 = .ok (.if_icmp .ne 13, 3) := by decide +kernel
theorem d_Sounds_dueBehind_50 : decode prog_11_method_6_code 50 = .ok (.iload_n 1, 1) := by decide +kernel
theorem d_Sounds_dueBehind_51 : decode prog_11_method_6_code 51 = .ok (.bipush 59, 2) := by decide +kernel
theorem d_Sounds_dueBehind_53 : decode prog_11_method_6_code 53 = .ok (.if_icmp .ne 7, 3) := by decide +kernel
theorem d_Sounds_dueBehind_56 : decode prog_11_method_6_code 56 = .ok (.iconst 0, 1) := by decide +kernel
theorem d_Sounds_dueBehind_57 : decode prog_11_method_6_code 57 = .ok (.goto 4, 3) := by decide +kernel
theorem d_Sounds_dueBehind_61 : decode prog_11_method_6_code 61 = .ok (.ireturn, 1) := by decide +kernel
theorem d_Sounds_dueBehind_60 : decode prog_11_method_6_code 60 = .ok (.iconst (-1), 1) := by decide +kernel
theorem d_Sounds_firstFault_28 : decode prog_11_method_5_code 28 = .ok (.istore_n 1, 1) := by decide +kernel
theorem d_Sounds_firstFault_29 : decode prog_11_method_5_code 29 = .ok (.iload_n 1, 1) := by decide +kernel
theorem d_Sounds_firstFault_30 : decode prog_11_method_5_code 30 = .ok (.iconst (-1), 1) := by decide +kernel
theorem d_Sounds_firstFault_31 : decode prog_11_method_5_code 31 = .ok (.if_icmp .ne 5, 3) := by decide +kernel
theorem d_Sounds_firstFault_34 : decode prog_11_method_5_code 34 = .ok (.iload_n 3, 1) := by decide +kernel
theorem d_Sounds_firstFault_35 : decode prog_11_method_5_code 35 = .ok (.ireturn, 1) := by decide +kernel
theorem d_Sounds_firstFault_36 : decode prog_11_method_5_code 36 = .ok (.iload 4, 2) := by decide +kernel
theorem d_Sounds_firstFault_38 : decode prog_11_method_5_code 38 = .ok (.invokestatic 48, 3) := by decide +kernel
theorem d_Sounds_firstFault_41 : decode prog_11_method_5_code 41 = .ok (.ifCond .eq 26, 3) := by decide +kernel
theorem d_Sounds_firstFault_44 : decode prog_11_method_5_code 44 = .ok (.iconst 1, 1) := by decide +kernel
theorem d_Sounds_firstFault_45 : decode prog_11_method_5_code 45 = .ok (.iload 4, 2) := by decide +kernel
theorem d_Sounds_firstFault_47 : decode prog_11_method_5_code 47 = .ok (.bipush 97, 2) := by decide +kernel
theorem d_Sounds_firstFault_49 : decode prog_11_method_5_code 49 = .ok (.isub, 1) := by decide +kernel
theorem d_Sounds_firstFault_50 : decode prog_11_method_5_code 50 = .ok (.ishl, 1) := by decide +kernel
theorem d_Sounds_firstFault_51 : decode prog_11_method_5_code 51 = .ok (.istore 5, 2) := by decide +kernel
theorem d_Sounds_firstFault_53 : decode prog_11_method_5_code 53 = .ok (.iload_n 2, 1) := by decide +kernel
theorem d_Sounds_firstFault_54 : decode prog_11_method_5_code 54 = .ok (.iload 5, 2) := by decide +kernel
theorem d_Sounds_firstFault_56 : decode prog_11_method_5_code 56 = .ok (.iand, 1) := by decide +kernel
theorem d_Sounds_firstFault_57 : decode prog_11_method_5_code 57 = .ok (.ifCond .eq 5, 3) := by decide +kernel
theorem d_Sounds_firstFault_62 : decode prog_11_method_5_code 62 = .ok (.iload_n 2, 1) := by decide +kernel
theorem d_Sounds_firstFault_63 : decode prog_11_method_5_code 63 = .ok (.iload 5, 2) := by decide +kernel
theorem d_Sounds_firstFault_65 : decode prog_11_method_5_code 65 = .ok (.ior, 1) := by decide +kernel
theorem d_Sounds_firstFault_66 : decode prog_11_method_5_code 66 = .ok (.istore_n 2, 1) := by decide +kernel
theorem d_Sounds_firstFault_60 : decode prog_11_method_5_code 60 = .ok (.iload_n 3, 1) := by decide +kernel
theorem d_Sounds_firstFault_61 : decode prog_11_method_5_code 61 = .ok (.ireturn, 1) := by decide +kernel
theorem d_Sounds_firstFault_67 : decode prog_11_method_5_code 67 = .ok (.iinc 3 1, 3) := by decide +kernel
theorem d_Sounds_firstFault_70 : decode prog_11_method_5_code 70 = .ok (.goto (-64), 3) := by decide +kernel
theorem d_Sounds_read_5 : decode prog_11_method_4_code 5 = .ok (.putfield 41, 3) := by decide +kernel
theorem d_Sounds_read_8 : decode prog_11_method_4_code 8 = .ok (.aload_n 0, 1) := by decide +kernel
theorem d_Sounds_read_9 : decode prog_11_method_4_code 9 = .ok (.getfield 15, 3) := by decide +kernel
theorem d_Sounds_read_12 : decode prog_11_method_4_code 12 = .ok (.iconst (-1), 1) := by decide +kernel
theorem d_Sounds_read_13 : decode prog_11_method_4_code 13 = .ok (.invokestatic 24, 3) := by decide +kernel
theorem d_Arrays_fill_IIV_0 : decode prog_18_method_103_code 0 = .ok (.iconst 0, 1) := by decide +kernel
theorem d_Arrays_fill_IIV_1 : decode prog_18_method_103_code 1 = .ok (.istore_n 2, 1) := by decide +kernel
theorem d_Arrays_fill_IIV_2 : decode prog_18_method_103_code 2 = .ok (.aload_n 0, 1) := by decide +kernel
theorem d_Arrays_fill_IIV_3 : decode prog_18_method_103_code 3 = .ok (.arraylength, 1) := by decide +kernel
theorem d_Arrays_fill_IIV_4 : decode prog_18_method_103_code 4 = .ok (.istore_n 3, 1) := by decide +kernel
theorem d_Arrays_fill_IIV_5 : decode prog_18_method_103_code 5 = .ok (.iload_n 2, 1) := by decide +kernel
theorem d_Arrays_fill_IIV_6 : decode prog_18_method_103_code 6 = .ok (.iload_n 3, 1) := by decide +kernel
theorem d_Arrays_fill_IIV_7 : decode prog_18_method_103_code 7 = .ok (.if_icmp .ge 13, 3) := by decide +kernel
theorem d_Arrays_fill_IIV_20 : decode prog_18_method_103_code 20 = .ok (.return_, 1) := by decide +kernel
theorem d_Arrays_fill_IIV_10 : decode prog_18_method_103_code 10 = .ok (.aload_n 0, 1) := by decide +kernel
theorem d_Arrays_fill_IIV_11 : decode prog_18_method_103_code 11 = .ok (.iload_n 2, 1) := by decide +kernel
theorem d_Arrays_fill_IIV_12 : decode prog_18_method_103_code 12 = .ok (.iload_n 1, 1) := by decide +kernel
theorem d_Arrays_fill_IIV_13 : decode prog_18_method_103_code 13 = .ok (.iastore, 1) := by decide +kernel
theorem d_Arrays_fill_IIV_14 : decode prog_18_method_103_code 14 = .ok (.iinc 2 1, 3) := by decide +kernel
theorem d_Arrays_fill_IIV_17 : decode prog_18_method_103_code 17 = .ok (.goto (-12), 3) := by decide +kernel
theorem d_Sounds_read_16 : decode prog_11_method_4_code 16 = .ok (.aload_n 0, 1) := by decide +kernel
theorem d_Sounds_read_17 : decode prog_11_method_4_code 17 = .ok (.getfield 41, 3) := by decide +kernel
theorem d_Sounds_read_20 : decode prog_11_method_4_code 20 = .ok (.iconst (-1), 1) := by decide +kernel
theorem d_Sounds_read_21 : decode prog_11_method_4_code 21 = .ok (.if_icmp .eq 4, 3) := by decide +kernel
theorem d_Sounds_read_25 : decode prog_11_method_4_code 25 = .ok (.iconst (-1), 1) := by decide +kernel
theorem d_Sounds_read_26 : decode prog_11_method_4_code 26 = .ok (.istore_n 1, 1) := by decide +kernel
theorem d_Sounds_read_27 : decode prog_11_method_4_code 27 = .ok (.aload_n 0, 1) := by decide +kernel
theorem d_Sounds_read_28 : decode prog_11_method_4_code 28 = .ok (.getfield 30, 3) := by decide +kernel
theorem d_Sounds_read_31 : decode prog_11_method_4_code 31 = .ok (.iconst 1, 1) := by decide +kernel
theorem d_Sounds_read_32 : decode prog_11_method_4_code 32 = .ok (.isub, 1) := by decide +kernel
theorem d_Sounds_read_33 : decode prog_11_method_4_code 33 = .ok (.istore_n 2, 1) := by decide +kernel
theorem d_Sounds_read_24 : decode prog_11_method_4_code 24 = .ok (.return_, 1) := by decide +kernel
theorem d_Sounds_read_34 : decode prog_11_method_4_code 34 = .ok (.iload_n 2, 1) := by decide +kernel
theorem d_Sounds_read_35 : decode prog_11_method_4_code 35 = .ok (.ifCond .lt 58, 3) := by decide +kernel
theorem d_Sounds_read_93 : decode prog_11_method_4_code 93 = .ok (.return_, 1) := by decide +kernel
theorem d_Sounds_read_38 : decode prog_11_method_4_code 38 = .ok (.aload_n 0, 1) := by decide +kernel
theorem d_Sounds_read_39 : decode prog_11_method_4_code 39 = .ok (.getfield 11, 3) := by decide +kernel
theorem d_Sounds_read_42 : decode prog_11_method_4_code 42 = .ok (.iload_n 2, 1) := by decide +kernel
theorem d_Sounds_read_43 : decode prog_11_method_4_code 43 = .ok (.iaload, 1) := by decide +kernel
theorem d_Sounds_read_44 : decode prog_11_method_4_code 44 = .ok (.invokestatic 44, 3) := by decide +kernel
theorem d_Sounds_read_47 : decode prog_11_method_4_code 47 = .ok (.ifCond .eq 13, 3) := by decide +kernel
theorem d_Sounds_read_60 : decode prog_11_method_4_code 60 = .ok (.aload_n 0, 1) := by decide +kernel
theorem d_Sounds_read_61 : decode prog_11_method_4_code 61 = .ok (.getfield 11, 3) := by decide +kernel
theorem d_Sounds_read_64 : decode prog_11_method_4_code 64 = .ok (.iload_n 2, 1) := by decide +kernel
theorem d_Sounds_read_65 : decode prog_11_method_4_code 65 = .ok (.iaload, 1) := by decide +kernel
theorem d_Sounds_read_66 : decode prog_11_method_4_code 66 = .ok (.invokestatic 48, 3) := by decide +kernel
theorem d_Sounds_read_69 : decode prog_11_method_4_code 69 = .ok (.ifCond .eq 18, 3) := by decide +kernel
theorem d_Sounds_read_72 : decode prog_11_method_4_code 72 = .ok (.aload_n 0, 1) := by decide +kernel
theorem d_Sounds_read_73 : decode prog_11_method_4_code 73 = .ok (.getfield 15, 3) := by decide +kernel
theorem d_Sounds_read_76 : decode prog_11_method_4_code 76 = .ok (.aload_n 0, 1) := by decide +kernel
theorem d_Sounds_read_77 : decode prog_11_method_4_code 77 = .ok (.getfield 11, 3) := by decide +kernel
theorem d_Sounds_read_80 : decode prog_11_method_4_code 80 = .ok (.iload_n 2, 1) := by decide +kernel
theorem d_Sounds_read_81 : decode prog_11_method_4_code 81 = .ok (.iaload, 1) := by decide +kernel
theorem d_Sounds_read_82 : decode prog_11_method_4_code 82 = .ok (.bipush 97, 2) := by decide +kernel
theorem d_Sounds_read_84 : decode prog_11_method_4_code 84 = .ok (.isub, 1) := by decide +kernel
theorem d_Sounds_read_85 : decode prog_11_method_4_code 85 = .ok (.iload_n 1, 1) := by decide +kernel
theorem d_Sounds_read_86 : decode prog_11_method_4_code 86 = .ok (.iastore, 1) := by decide +kernel
theorem d_Sounds_read_50 : decode prog_11_method_4_code 50 = .ok (.aload_n 0, 1) := by decide +kernel
theorem d_Sounds_read_51 : decode prog_11_method_4_code 51 = .ok (.getfield 11, 3) := by decide +kernel
theorem d_Sounds_read_54 : decode prog_11_method_4_code 54 = .ok (.iload_n 2, 1) := by decide +kernel
theorem d_Sounds_read_55 : decode prog_11_method_4_code 55 = .ok (.iaload, 1) := by decide +kernel
theorem d_Sounds_read_56 : decode prog_11_method_4_code 56 = .ok (.istore_n 1, 1) := by decide +kernel
theorem d_Sounds_read_57 : decode prog_11_method_4_code 57 = .ok (.goto 30, 3) := by decide +kernel
theorem d_Sounds_read_87 : decode prog_11_method_4_code 87 = .ok (.iinc 2 (-1), 3) := by decide +kernel
theorem d_Sounds_read_90 : decode prog_11_method_4_code 90 = .ok (.goto (-56), 3) := by decide +kernel
theorem d_O_type_37 : decode prog_1_method_9_code 37 = .ok (.aload_n 0, 1) := by decide +kernel
theorem d_O_type_38 : decode prog_1_method_9_code 38 = .ok (.getfield 37, 3) := by decide +kernel
theorem d_O_type_41 : decode prog_1_method_9_code 41 = .ok (.aload_n 0, 1) := by decide +kernel
theorem d_O_type_42 : decode prog_1_method_9_code 42 = .ok (.getfield 27, 3) := by decide +kernel
theorem d_O_type_45 : decode prog_1_method_9_code 45 = .ok (.invokevirtual 171, 3) := by decide +kernel
theorem d_Sounds_hearAll_0 : decode prog_11_method_7_code 0 = .ok (.iconst 0, 1) := by decide +kernel
theorem d_Sounds_hearAll_1 : decode prog_11_method_7_code 1 = .ok (.istore_n 2, 1) := by decide +kernel
theorem d_Sounds_hearAll_2 : decode prog_11_method_7_code 2 = .ok (.iload_n 2, 1) := by decide +kernel
theorem d_Sounds_hearAll_3 : decode prog_11_method_7_code 3 = .ok (.aload_n 1, 1) := by decide +kernel
theorem d_Sounds_hearAll_4 : decode prog_11_method_7_code 4 = .ok (.getfield 55, 3) := by decide +kernel
theorem d_Sounds_hearAll_7 : decode prog_11_method_7_code 7 = .ok (.if_icmp .ge 15, 3) := by decide +kernel
theorem d_Sounds_hearAll_22 : decode prog_11_method_7_code 22 = .ok (.return_, 1) := by decide +kernel
theorem d_Sounds_hearAll_10 : decode prog_11_method_7_code 10 = .ok (.aload_n 0, 1) := by decide +kernel
theorem d_Sounds_hearAll_11 : decode prog_11_method_7_code 11 = .ok (.aload_n 1, 1) := by decide +kernel
theorem d_Sounds_hearAll_12 : decode prog_11_method_7_code 12 = .ok (.iload_n 2, 1) := by decide +kernel
theorem d_Sounds_hearAll_13 : decode prog_11_method_7_code 13 = .ok (.invokevirtual 58, 3) := by decide +kernel
theorem d_Sounds_hearAll_16 : decode prog_11_method_7_code 16 = .ok (.iinc 2 1, 3) := by decide +kernel
theorem d_Sounds_hearAll_19 : decode prog_11_method_7_code 19 = .ok (.goto (-17), 3) := by decide +kernel
theorem d_O_type_48 : decode prog_1_method_9_code 48 = .ok (.aload_n 0, 1) := by decide +kernel
theorem d_O_type_49 : decode prog_1_method_9_code 49 = .ok (.getfield 37, 3) := by decide +kernel
theorem d_O_type_52 : decode prog_1_method_9_code 52 = .ok (.getfield 167, 3) := by decide +kernel
theorem d_O_type_55 : decode prog_1_method_9_code 55 = .ok (.ireturn, 1) := by decide +kernel
theorem d_O_type_26 : decode prog_1_method_9_code 26 = .ok (.bipush (-4), 2) := by decide +kernel
theorem d_O_type_28 : decode prog_1_method_9_code 28 = .ok (.ireturn, 1) := by decide +kernel
theorem d_O_wipe_0 : decode prog_1_method_10_code 0 = .ok (.aload_n 0, 1) := by decide +kernel
theorem d_O_wipe_1 : decode prog_1_method_10_code 1 = .ok (.getfield 37, 3) := by decide +kernel
theorem d_O_wipe_4 : decode prog_1_method_10_code 4 = .ok (.getfield 167, 3) := by decide +kernel
theorem d_O_wipe_7 : decode prog_1_method_10_code 7 = .ok (.istore_n 1, 1) := by decide +kernel
theorem d_O_wipe_8 : decode prog_1_method_10_code 8 = .ok (.aload_n 0, 1) := by decide +kernel
theorem d_O_wipe_9 : decode prog_1_method_10_code 9 = .ok (.getfield 37, 3) := by decide +kernel
theorem d_O_wipe_12 : decode prog_1_method_10_code 12 = .ok (.invokevirtual 175, 3) := by decide +kernel
theorem d_Sounds_empty_0 : decode prog_11_method_3_code 0 = .ok (.aload_n 0, 1) := by decide +kernel
theorem d_Sounds_empty_1 : decode prog_11_method_3_code 1 = .ok (.iconst 0, 1) := by decide +kernel
theorem d_Sounds_empty_2 : decode prog_11_method_3_code 2 = .ok (.putfield 30, 3) := by decide +kernel
theorem d_Sounds_empty_5 : decode prog_11_method_3_code 5 = .ok (.aload_n 0, 1) := by decide +kernel
theorem d_Sounds_empty_6 : decode prog_11_method_3_code 6 = .ok (.invokevirtual 34, 3) := by decide +kernel
theorem d_Sounds_empty_9 : decode prog_11_method_3_code 9 = .ok (.return_, 1) := by decide +kernel
theorem d_O_wipe_15 : decode prog_1_method_10_code 15 = .ok (.aload_n 0, 1) := by decide +kernel
theorem d_O_wipe_16 : decode prog_1_method_10_code 16 = .ok (.getfield 37, 3) := by decide +kernel
theorem d_O_wipe_19 : decode prog_1_method_10_code 19 = .ok (.aload_n 0, 1) := by decide +kernel
theorem d_O_wipe_20 : decode prog_1_method_10_code 20 = .ok (.getfield 27, 3) := by decide +kernel
theorem d_O_wipe_23 : decode prog_1_method_10_code 23 = .ok (.invokevirtual 171, 3) := by decide +kernel
theorem d_O_wipe_26 : decode prog_1_method_10_code 26 = .ok (.iload_n 1, 1) := by decide +kernel
theorem d_O_wipe_27 : decode prog_1_method_10_code 27 = .ok (.ireturn, 1) := by decide +kernel
theorem d_O_fault_0 : decode prog_1_method_11_code 0 = .ok (.aload_n 0, 1) := by decide +kernel
theorem d_O_fault_1 : decode prog_1_method_11_code 1 = .ok (.getfield 37, 3) := by decide +kernel
theorem d_O_fault_4 : decode prog_1_method_11_code 4 = .ok (.getfield 178, 3) := by decide +kernel
theorem d_O_fault_7 : decode prog_1_method_11_code 7 = .ok (.ireturn, 1) := by decide +kernel
theorem d_O_sound_0 : decode prog_1_method_12_code 0 = .ok (.aload_n 0, 1) := by decide +kernel
theorem d_O_sound_1 : decode prog_1_method_12_code 1 = .ok (.getfield 27, 3) := by decide +kernel
theorem d_O_sound_4 : decode prog_1_method_12_code 4 = .ok (.iload_n 1, 1) := by decide +kernel
theorem d_O_sound_5 : decode prog_1_method_12_code 5 = .ok (.invokevirtual 138, 3) := by decide +kernel
theorem d_O_sound_8 : decode prog_1_method_12_code 8 = .ok (.ifCond .eq 7, 3) := by decide +kernel
theorem d_O_sound_15 : decode prog_1_method_12_code 15 = .ok (.bipush (-2), 2) := by decide +kernel
theorem d_O_sound_17 : decode prog_1_method_12_code 17 = .ok (.ireturn, 1) := by decide +kernel
theorem d_O_sound_11 : decode prog_1_method_12_code 11 = .ok (.iload_n 2, 1) := by decide +kernel
theorem d_O_sound_12 : decode prog_1_method_12_code 12 = .ok (.ifCond .ge 6, 3) := by decide +kernel
theorem d_O_sound_18 : decode prog_1_method_12_code 18 = .ok (.iload_n 2, 1) := by decide +kernel
theorem d_O_sound_19 : decode prog_1_method_12_code 19 = .ok (.aload_n 0, 1) := by decide +kernel
theorem d_O_sound_20 : decode prog_1_method_12_code 20 = .ok (.getfield 37, 3) := by decide +kernel
theorem d_O_sound_23 : decode prog_1_method_12_code 23 = .ok (.iload_n 1, 1) := by decide +kernel
theorem d_O_sound_24 : decode prog_1_method_12_code 24 = .ok (.invokevirtual 181, 3) := by decide +kernel
theorem d_Sounds_lengthOf_0 : decode prog_11_method_10_code 0 = .ok (.aload_n 0, 1) := by decide +kernel
theorem d_Sounds_lengthOf_1 : decode prog_11_method_10_code 1 = .ok (.getfield 21, 3) := by decide +kernel
theorem d_Sounds_lengthOf_4 : decode prog_11_method_10_code 4 = .ok (.iload_n 1, 1) := by decide +kernel
theorem d_Sounds_lengthOf_5 : decode prog_11_method_10_code 5 = .ok (.iaload, 1) := by decide +kernel
theorem d_Sounds_lengthOf_6 : decode prog_11_method_10_code 6 = .ok (.ireturn, 1) := by decide +kernel
theorem d_O_sound_27 : decode prog_1_method_12_code 27 = .ok (.if_icmp .lt 5, 3) := by decide +kernel
theorem d_O_sound_32 : decode prog_1_method_12_code 32 = .ok (.aload_n 0, 1) := by decide +kernel
theorem d_O_sound_33 : decode prog_1_method_12_code 33 = .ok (.getfield 37, 3) := by decide +kernel
theorem d_O_sound_36 : decode prog_1_method_12_code 36 = .ok (.iload_n 1, 1) := by decide +kernel
theorem d_O_sound_37 : decode prog_1_method_12_code 37 = .ok (.iload_n 2, 1) := by decide +kernel
theorem d_O_sound_38 : decode prog_1_method_12_code 38 = .ok (.invokevirtual 184, 3) := by decide +kernel
theorem d_Sounds_signAt_0 : decode prog_11_method_11_code 0 = .ok (.aload_n 0, 1) := by decide +kernel
theorem d_Sounds_signAt_1 : decode prog_11_method_11_code 1 = .ok (.getfield 18, 3) := by decide +kernel
theorem d_Sounds_signAt_4 : decode prog_11_method_11_code 4 = .ok (.iload_n 1, 1) := by decide +kernel
theorem d_Sounds_signAt_5 : decode prog_11_method_11_code 5 = .ok (.bipush 10, 2) := by decide +kernel
theorem d_Sounds_signAt_7 : decode prog_11_method_11_code 7 = .ok (.imul, 1) := by decide +kernel
theorem d_Sounds_signAt_8 : decode prog_11_method_11_code 8 = .ok (.iload_n 2, 1) := by decide +kernel
theorem d_Sounds_signAt_9 : decode prog_11_method_11_code 9 = .ok (.iadd, 1) := by decide +kernel
theorem d_Sounds_signAt_10 : decode prog_11_method_11_code 10 = .ok (.iaload, 1) := by decide +kernel
theorem d_Sounds_signAt_11 : decode prog_11_method_11_code 11 = .ok (.ireturn, 1) := by decide +kernel
theorem d_O_sound_41 : decode prog_1_method_12_code 41 = .ok (.ireturn, 1) := by decide +kernel
theorem d_O_sound_30 : decode prog_1_method_12_code 30 = .ok (.iconst (-1), 1) := by decide +kernel
theorem d_O_sound_31 : decode prog_1_method_12_code 31 = .ok (.ireturn, 1) := by decide +kernel
theorem d_O_slips_0 : decode prog_1_method_13_code 0 = .ok (.aload_n 0, 1) := by decide +kernel
theorem d_O_slips_1 : decode prog_1_method_13_code 1 = .ok (.getfield 27, 3) := by decide +kernel
theorem d_O_slips_4 : decode prog_1_method_13_code 4 = .ok (.iload_n 1, 1) := by decide +kernel
theorem d_O_slips_5 : decode prog_1_method_13_code 5 = .ok (.invokevirtual 138, 3) := by decide +kernel
theorem d_O_slips_8 : decode prog_1_method_13_code 8 = .ok (.ifCond .eq 14, 3) := by decide +kernel
theorem d_O_slips_22 : decode prog_1_method_13_code 22 = .ok (.bipush (-2), 2) := by decide +kernel
theorem d_O_slips_24 : decode prog_1_method_13_code 24 = .ok (.ireturn, 1) := by decide +kernel
theorem d_O_slips_11 : decode prog_1_method_13_code 11 = .ok (.aload_n 0, 1) := by decide +kernel
theorem d_O_slips_12 : decode prog_1_method_13_code 12 = .ok (.getfield 27, 3) := by decide +kernel
theorem d_O_slips_15 : decode prog_1_method_13_code 15 = .ok (.iload_n 2, 1) := by decide +kernel
theorem d_O_slips_16 : decode prog_1_method_13_code 16 = .ok (.invokevirtual 138, 3) := by decide +kernel
theorem d_O_slips_19 : decode prog_1_method_13_code 19 = .ok (.ifCond .ne 6, 3) := by decide +kernel
theorem d_O_slips_25 : decode prog_1_method_13_code 25 = .ok (.aload_n 0, 1) := by decide +kernel
theorem d_O_slips_26 : decode prog_1_method_13_code 26 = .ok (.getfield 32, 3) := by decide +kernel
theorem d_O_slips_29 : decode prog_1_method_13_code 29 = .ok (.iload_n 1, 1) := by decide +kernel
theorem d_O_slips_30 : decode prog_1_method_13_code 30 = .ok (.iload_n 2, 1) := by decide +kernel
theorem d_O_slips_31 : decode prog_1_method_13_code 31 = .ok (.invokevirtual 187, 3) := by decide +kernel
theorem d_Slips_between_0 : decode prog_10_method_2_code 0 = .ok (.aload_n 0, 1) := by decide +kernel
theorem d_Slips_between_1 : decode prog_10_method_2_code 1 = .ok (.getfield 9, 3) := by decide +kernel
theorem d_Slips_between_4 : decode prog_10_method_2_code 4 = .ok (.iload_n 1, 1) := by decide +kernel
theorem d_Slips_between_5 : decode prog_10_method_2_code 5 = .ok (.bipush 36, 2) := by decide +kernel
theorem d_Slips_between_7 : decode prog_10_method_2_code 7 = .ok (.imul, 1) := by decide +kernel
theorem d_Slips_between_8 : decode prog_10_method_2_code 8 = .ok (.iload_n 2, 1) := by decide +kernel
theorem d_Slips_between_9 : decode prog_10_method_2_code 9 = .ok (.iadd, 1) := by decide +kernel
theorem d_Slips_between_10 : decode prog_10_method_2_code 10 = .ok (.iaload, 1) := by decide +kernel
theorem d_Slips_between_11 : decode prog_10_method_2_code 11 = .ok (.ireturn, 1) := by decide +kernel
theorem d_O_slips_34 : decode prog_1_method_13_code 34 = .ok (.ireturn, 1) := by decide +kernel
theorem d_O_level_0 : decode prog_1_method_14_code 0 = .ok (.aload_n 0, 1) := by decide +kernel
theorem d_O_level_1 : decode prog_1_method_14_code 1 = .ok (.getfield 27, 3) := by decide +kernel
theorem d_O_level_4 : decode prog_1_method_14_code 4 = .ok (.iload_n 1, 1) := by decide +kernel
theorem d_O_level_5 : decode prog_1_method_14_code 5 = .ok (.iload_n 2, 1) := by decide +kernel
theorem d_O_level_6 : decode prog_1_method_14_code 6 = .ok (.invokevirtual 190, 3) := by decide +kernel
theorem d_Rows_arePair_0 : decode prog_8_method_3_code 0 = .ok (.aload_n 0, 1) := by decide +kernel
theorem d_Rows_arePair_1 : decode prog_8_method_3_code 1 = .ok (.iload_n 1, 1) := by decide +kernel
theorem d_Rows_arePair_2 : decode prog_8_method_3_code 2 = .ok (.invokevirtual 29, 3) := by decide +kernel
theorem d_Rows_arePair_5 : decode prog_8_method_3_code 5 = .ok (.ifCond .eq 20, 3) := by decide +kernel
theorem d_Rows_arePair_25 : decode prog_8_method_3_code 25 = .ok (.iconst 0, 1) := by decide +kernel
theorem d_Rows_arePair_26 : decode prog_8_method_3_code 26 = .ok (.ireturn, 1) := by decide +kernel
theorem d_Rows_arePair_8 : decode prog_8_method_3_code 8 = .ok (.aload_n 0, 1) := by decide +kernel
theorem d_Rows_arePair_9 : decode prog_8_method_3_code 9 = .ok (.iload_n 2, 1) := by decide +kernel
theorem d_Rows_arePair_10 : decode prog_8_method_3_code 10 = .ok (.invokevirtual 29, 3) := by decide +kernel
theorem d_Rows_arePair_13 : decode prog_8_method_3_code 13 = .ok (.ifCond .eq 12, 3) := by decide +kernel
theorem d_Rows_arePair_16 : decode prog_8_method_3_code 16 = .ok (.iload_n 1, 1) := by decide +kernel
theorem d_Rows_arePair_17 : decode prog_8_method_3_code 17 = .ok (.iload_n 2, 1) := by decide +kernel
theorem d_Rows_arePair_18 : decode prog_8_method_3_code 18 = .ok (.if_icmp .eq 7, 3) := by decide +kernel
theorem d_Rows_arePair_21 : decode prog_8_method_3_code 21 = .ok (.iconst 1, 1) := by decide +kernel
theorem d_Rows_arePair_22 : decode prog_8_method_3_code 22 = .ok (.goto 4, 3) := by decide +kernel
theorem d_O_level_9 : decode prog_1_method_14_code 9 = .ok (.ifCond .eq 11, 3) := by decide +kernel
theorem d_O_level_20 : decode prog_1_method_14_code 20 = .ok (.bipush (-2), 2) := by decide +kernel
theorem d_O_level_22 : decode prog_1_method_14_code 22 = .ok (.ireturn, 1) := by decide +kernel
theorem d_O_level_12 : decode prog_1_method_14_code 12 = .ok (.iload_n 3, 1) := by decide +kernel
theorem d_O_level_13 : decode prog_1_method_14_code 13 = .ok (.iconst 4, 1) := by decide +kernel
theorem d_O_level_14 : decode prog_1_method_14_code 14 = .ok (.invokestatic 88, 3) := by decide +kernel
theorem d_O_level_17 : decode prog_1_method_14_code 17 = .ok (.ifCond .ne 6, 3) := by decide +kernel
theorem d_O_level_23 : decode prog_1_method_14_code 23 = .ok (.aload_n 0, 1) := by decide +kernel
theorem d_O_level_24 : decode prog_1_method_14_code 24 = .ok (.getfield 19, 3) := by decide +kernel
theorem d_O_level_27 : decode prog_1_method_14_code 27 = .ok (.iload_n 1, 1) := by decide +kernel
theorem d_O_level_28 : decode prog_1_method_14_code 28 = .ok (.iload_n 2, 1) := by decide +kernel
theorem d_O_level_29 : decode prog_1_method_14_code 29 = .ok (.iload_n 3, 1) := by decide +kernel
theorem d_O_level_30 : decode prog_1_method_14_code 30 = .ok (.invokevirtual 193, 3) := by decide +kernel
theorem d_Pairs_levelOf_0 : decode prog_7_method_2_code 0 = .ok (.iload_n 3, 1) := by decide +kernel
theorem d_Pairs_levelOf_1 : decode prog_7_method_2_code 1 = .ok (.ifCond .ne 43, 3) := by decide +kernel
theorem d_Pairs_levelOf_4 : decode prog_7_method_2_code 4 = .ok (.aload_n 0, 1) := by decide +kernel
theorem d_Pairs_levelOf_5 : decode prog_7_method_2_code 5 = .ok (.getfield 21, 3) := by decide +kernel
theorem d_Pairs_levelOf_8 : decode prog_7_method_2_code 8 = .ok (.iload_n 1, 1) := by decide +kernel
theorem d_Pairs_levelOf_9 : decode prog_7_method_2_code 9 = .ok (.iload_n 2, 1) := by decide +kernel
theorem d_Pairs_levelOf_10 : decode prog_7_method_2_code 10 = .ok (.invokevirtual 39, 3) := by decide +kernel
theorem d_Pairs_levelOf_13 : decode prog_7_method_2_code 13 = .ok (.istore 4, 2) := by decide +kernel
theorem d_Pairs_levelOf_15 : decode prog_7_method_2_code 15 = .ok (.iload 4, 2) := by decide +kernel
theorem d_Pairs_levelOf_17 : decode prog_7_method_2_code 17 = .ok (.iconst 2, 1) := by decide +kernel
theorem d_Pairs_levelOf_18 : decode prog_7_method_2_code 18 = .ok (.if_icmp .gt 8, 3) := by decide +kernel
theorem d_Pairs_levelOf_26 : decode prog_7_method_2_code 26 = .ok (.aload_n 0, 1) := by decide +kernel
theorem d_Pairs_levelOf_27 : decode prog_7_method_2_code 27 = .ok (.getfield 28, 3) := by decide +kernel
theorem d_Pairs_levelOf_30 : decode prog_7_method_2_code 30 = .ok (.iload_n 1, 1) := by decide +kernel
theorem d_Pairs_levelOf_31 : decode prog_7_method_2_code 31 = .ok (.iload_n 2, 1) := by decide +kernel
theorem d_Pairs_levelOf_32 : decode prog_7_method_2_code 32 = .ok (.invokevirtual 43, 3) := by decide +kernel
theorem d_Sounds_areAlike_0 : decode prog_11_method_12_code 0 = .ok (.aload_n 0, 1) := by decide +kernel
theorem d_Sounds_areAlike_1 : decode prog_11_method_12_code 1 = .ok (.getfield 21, 3) := by decide +kernel
theorem d_Sounds_areAlike_4 : decode prog_11_method_12_code 4 = .ok (.iload_n 1, 1) := by decide +kernel
theorem d_Sounds_areAlike_5 : decode prog_11_method_12_code 5 = .ok (.iaload, 1) := by decide +kernel
theorem d_Sounds_areAlike_6 : decode prog_11_method_12_code 6 = .ok (.aload_n 0, 1) := by decide +kernel
theorem d_Sounds_areAlike_7 : decode prog_11_method_12_code 7 = .ok (.getfield 21, 3) := by decide +kernel
theorem d_Sounds_areAlike_10 : decode prog_11_method_12_code 10 = .ok (.iload_n 2, 1) := by decide +kernel
theorem d_Sounds_areAlike_11 : decode prog_11_method_12_code 11 = .ok (.iaload, 1) := by decide +kernel
theorem d_Sounds_areAlike_12 : decode prog_11_method_12_code 12 = .ok (.if_icmp .eq 5, 3) := by decide +kernel
theorem d_Sounds_areAlike_17 : decode prog_11_method_12_code 17 = .ok (.iconst 0, 1) := by decide +kernel
theorem d_Sounds_areAlike_18 : decode prog_11_method_12_code 18 = .ok (.istore_n 3, 1) := by decide +kernel
theorem d_Sounds_areAlike_15 : decode prog_11_method_12_code 15 = .ok (.iconst 0, 1) := by decide +kernel
theorem d_Sounds_areAlike_16 : decode prog_11_method_12_code 16 = .ok (.ireturn, 1) := by decide +kernel
theorem d_Sounds_areAlike_19 : decode prog_11_method_12_code 19 = .ok (.iload_n 3, 1) := by decide +kernel
theorem d_Sounds_areAlike_20 : decode prog_11_method_12_code 20 = .ok (.aload_n 0, 1) := by decide +kernel
theorem d_Sounds_areAlike_21 : decode prog_11_method_12_code 21 = .ok (.getfield 21, 3) := by decide +kernel
theorem d_Sounds_areAlike_24 : decode prog_11_method_12_code 24 = .ok (.iload_n 1, 1) := by decide +kernel
theorem d_Sounds_areAlike_25 : decode prog_11_method_12_code 25 = .ok (.iaload, 1) := by decide +kernel
theorem d_Sounds_areAlike_26 : decode prog_11_method_12_code 26 = .ok (.if_icmp .ge 36, 3) := by decide +kernel
theorem d_Sounds_areAlike_62 : decode prog_11_method_12_code 62 = .ok (.iconst 1, 1) := by decide +kernel
theorem d_Sounds_areAlike_63 : decode prog_11_method_12_code 63 = .ok (.ireturn, 1) := by decide +kernel
theorem d_Sounds_areAlike_29 : decode prog_11_method_12_code 29 = .ok (.aload_n 0, 1) := by decide +kernel
theorem d_Sounds_areAlike_30 : decode prog_11_method_12_code 30 = .ok (.getfield 18, 3) := by decide +kernel
theorem d_Sounds_areAlike_33 : decode prog_11_method_12_code 33 = .ok (.iload_n 1, 1) := by decide +kernel
theorem d_Sounds_areAlike_34 : decode prog_11_method_12_code 34 = .ok (.bipush 10, 2) := by decide +kernel
theorem d_Sounds_areAlike_36 : decode prog_11_method_12_code 36 = .ok (.imul, 1) := by decide +kernel
theorem d_Sounds_areAlike_37 : decode prog_11_method_12_code 37 = .ok (.iload_n 3, 1) := by decide +kernel
theorem d_Sounds_areAlike_38 : decode prog_11_method_12_code 38 = .ok (.iadd, 1) := by decide +kernel
theorem d_Sounds_areAlike_39 : decode prog_11_method_12_code 39 = .ok (.iaload, 1) := by decide +kernel
theorem d_Sounds_areAlike_40 : decode prog_11_method_12_code 40 = .ok (.aload_n 0, 1) := by decide +kernel
theorem d_Sounds_areAlike_41 : decode prog_11_method_12_code 41 = .ok (.getfield 18, 3) := by decide +kernel
theorem d_Sounds_areAlike_44 : decode prog_11_method_12_code 44 = .ok (.iload_n 2, 1) := by decide +kernel
theorem d_Sounds_areAlike_45 : decode prog_11_method_12_code 45 = .ok (.bipush 10, 2) := by decide +kernel
theorem d_Sounds_areAlike_47 : decode prog_11_method_12_code 47 = .ok (.imul, 1) := by decide +kernel
theorem d_Sounds_areAlike_48 : decode prog_11_method_12_code 48 = .ok (.iload_n 3, 1) := by decide +kernel
theorem d_Sounds_areAlike_49 : decode prog_11_method_12_code 49 = .ok (.iadd, 1) := by decide +kernel
theorem d_Sounds_areAlike_50 : decode prog_11_method_12_code 50 = .ok (.iaload, 1) := by decide +kernel
theorem d_Sounds_areAlike_51 : decode prog_11_method_12_code 51 = .ok (.if_icmp .eq 5, 3) := by decide +kernel
theorem d_Sounds_areAlike_56 : decode prog_11_method_12_code 56 = .ok (.iinc 3 1, 3) := by decide +kernel
theorem d_Sounds_areAlike_59 : decode prog_11_method_12_code 59 = .ok (.goto (-40), 3) := by decide +kernel
theorem d_Sounds_areAlike_54 : decode prog_11_method_12_code 54 = .ok (.iconst 0, 1) := by decide +kernel
theorem d_Sounds_areAlike_55 : decode prog_11_method_12_code 55 = .ok (.ireturn, 1) := by decide +kernel
theorem d_Pairs_levelOf_35 : decode prog_7_method_2_code 35 = .ok (.ifCond .eq 7, 3) := by decide +kernel
theorem d_Pairs_levelOf_42 : decode prog_7_method_2_code 42 = .ok (.iconst 3, 1) := by decide +kernel
theorem d_Pairs_levelOf_43 : decode prog_7_method_2_code 43 = .ok (.ireturn, 1) := by decide +kernel
theorem d_Pairs_levelOf_38 : decode prog_7_method_2_code 38 = .ok (.iconst 2, 1) := by decide +kernel
theorem d_Pairs_levelOf_39 : decode prog_7_method_2_code 39 = .ok (.goto 4, 3) := by decide +kernel
theorem d_Pairs_levelOf_21 : decode prog_7_method_2_code 21 = .ok (.iload 4, 2) := by decide +kernel
theorem d_Pairs_levelOf_23 : decode prog_7_method_2_code 23 = .ok (.goto 20, 3) := by decide +kernel
theorem d_Pairs_levelOf_44 : decode prog_7_method_2_code 44 = .ok (.aload_n 0, 1) := by decide +kernel
theorem d_Pairs_levelOf_45 : decode prog_7_method_2_code 45 = .ok (.getfield 12, 3) := by decide +kernel
theorem d_Pairs_levelOf_48 : decode prog_7_method_2_code 48 = .ok (.iload_n 1, 1) := by decide +kernel
theorem d_Pairs_levelOf_49 : decode prog_7_method_2_code 49 = .ok (.iload_n 3, 1) := by decide +kernel
theorem d_Pairs_levelOf_50 : decode prog_7_method_2_code 50 = .ok (.invokevirtual 47, 3) := by decide +kernel
theorem d_Pairs_levelOf_53 : decode prog_7_method_2_code 53 = .ok (.istore 4, 2) := by decide +kernel
theorem d_Pairs_levelOf_55 : decode prog_7_method_2_code 55 = .ok (.aload_n 0, 1) := by decide +kernel
theorem d_Pairs_levelOf_56 : decode prog_7_method_2_code 56 = .ok (.getfield 12, 3) := by decide +kernel
theorem d_Pairs_levelOf_59 : decode prog_7_method_2_code 59 = .ok (.iload_n 2, 1) := by decide +kernel
theorem d_Pairs_levelOf_60 : decode prog_7_method_2_code 60 = .ok (.iload_n 3, 1) := by decide +kernel
theorem d_Pairs_levelOf_61 : decode prog_7_method_2_code 61 = .ok (.invokevirtual 47, 3) := by decide +kernel
theorem d_Pairs_levelOf_64 : decode prog_7_method_2_code 64 = .ok (.istore 5, 2) := by decide +kernel
theorem d_Pairs_levelOf_66 : decode prog_7_method_2_code 66 = .ok (.iload 4, 2) := by decide +kernel
theorem d_Pairs_levelOf_68 : decode prog_7_method_2_code 68 = .ok (.iconst (-1), 1) := by decide +kernel
theorem d_Pairs_levelOf_69 : decode prog_7_method_2_code 69 = .ok (.if_icmp .eq 9, 3) := by decide +kernel
theorem d_Pairs_levelOf_78 : decode prog_7_method_2_code 78 = .ok (.iconst (-1), 1) := by decide +kernel
theorem d_Pairs_levelOf_79 : decode prog_7_method_2_code 79 = .ok (.ireturn, 1) := by decide +kernel
theorem d_Pairs_levelOf_72 : decode prog_7_method_2_code 72 = .ok (.iload 5, 2) := by decide +kernel
theorem d_Pairs_levelOf_74 : decode prog_7_method_2_code 74 = .ok (.iconst (-1), 1) := by decide +kernel
theorem d_Pairs_levelOf_75 : decode prog_7_method_2_code 75 = .ok (.if_icmp .ne 5, 3) := by decide +kernel
theorem d_Pairs_levelOf_80 : decode prog_7_method_2_code 80 = .ok (.iload 4, 2) := by decide +kernel
theorem d_Pairs_levelOf_82 : decode prog_7_method_2_code 82 = .ok (.iload 5, 2) := by decide +kernel
theorem d_Pairs_levelOf_84 : decode prog_7_method_2_code 84 = .ok (.if_icmp .ne 5, 3) := by decide +kernel
theorem d_Pairs_levelOf_87 : decode prog_7_method_2_code 87 = .ok (.iconst 0, 1) := by decide +kernel
theorem d_Pairs_levelOf_88 : decode prog_7_method_2_code 88 = .ok (.ireturn, 1) := by decide +kernel
theorem d_Pairs_levelOf_89 : decode prog_7_method_2_code 89 = .ok (.iload_n 3, 1) := by decide +kernel
theorem d_Pairs_levelOf_90 : decode prog_7_method_2_code 90 = .ok (.iconst 1, 1) := by decide +kernel
theorem d_Pairs_levelOf_91 : decode prog_7_method_2_code 91 = .ok (.if_icmp .ne 35, 3) := by decide +kernel
theorem d_Pairs_levelOf_94 : decode prog_7_method_2_code 94 = .ok (.iload 4, 2) := by decide +kernel
theorem d_Pairs_levelOf_96 : decode prog_7_method_2_code 96 = .ok (.iload 5, 2) := by decide +kernel
theorem d_Pairs_levelOf_98 : decode prog_7_method_2_code 98 = .ok (.isub, 1) := by decide +kernel
theorem d_Pairs_levelOf_99 : decode prog_7_method_2_code 99 = .ok (.invokestatic 50, 3) := by decide +kernel
theorem d_Pairs_levelOf_102 : decode prog_7_method_2_code 102 = .ok (.istore 6, 2) := by decide +kernel
theorem d_Pairs_levelOf_104 : decode prog_7_method_2_code 104 = .ok (.iload 6, 2) := by decide +kernel
theorem d_Pairs_levelOf_106 : decode prog_7_method_2_code 106 = .ok (.iconst 1, 1) := by decide +kernel
theorem d_Pairs_levelOf_107 : decode prog_7_method_2_code 107 = .ok (.if_icmp .ne 7, 3) := by decide +kernel
theorem d_Pairs_levelOf_110 : decode prog_7_method_2_code 110 = .ok (.iconst 1, 1) := by decide +kernel
theorem d_Pairs_levelOf_111 : decode prog_7_method_2_code 111 = .ok (.goto 14, 3) := by decide +kernel
theorem d_Pairs_levelOf_125 : decode prog_7_method_2_code 125 = .ok (.ireturn, 1) := by decide +kernel
theorem d_Pairs_levelOf_114 : decode prog_7_method_2_code 114 = .ok (.iload 6, 2) := by decide +kernel
theorem d_Pairs_levelOf_116 : decode prog_7_method_2_code 116 = .ok (.iconst 5, 1) := by decide +kernel
theorem d_Pairs_levelOf_117 : decode prog_7_method_2_code 117 = .ok (.if_icmp .gt 7, 3) := by decide +kernel
theorem d_Pairs_levelOf_124 : decode prog_7_method_2_code 124 = .ok (.iconst 3, 1) := by decide +kernel
theorem d_Pairs_levelOf_120 : decode prog_7_method_2_code 120 = .ok (.iconst 2, 1) := by decide +kernel
theorem d_Pairs_levelOf_121 : decode prog_7_method_2_code 121 = .ok (.goto 4, 3) := by decide +kernel
theorem d_Pairs_levelOf_126 : decode prog_7_method_2_code 126 = .ok (.iload_n 3, 1) := by decide +kernel
theorem d_Pairs_levelOf_127 : decode prog_7_method_2_code 127 = .ok (.iconst 2, 1) := by decide +kernel
theorem d_Pairs_levelOf_128 : decode prog_7_method_2_code 128 = .ok (.if_icmp .ne 39, 3) := by decide +kernel
theorem d_Pairs_levelOf_131 : decode prog_7_method_2_code 131 = .ok (.aload_n 0, 1) := by decide +kernel
theorem d_Pairs_levelOf_132 : decode prog_7_method_2_code 132 = .ok (.getfield 35, 3) := by decide +kernel
theorem d_Pairs_levelOf_135 : decode prog_7_method_2_code 135 = .ok (.iload 4, 2) := by decide +kernel
theorem d_Pairs_levelOf_137 : decode prog_7_method_2_code 137 = .ok (.iload 5, 2) := by decide +kernel
theorem d_Pairs_levelOf_139 : decode prog_7_method_2_code 139 = .ok (.invokevirtual 56, 3) := by decide +kernel
theorem d_Weights_wayBetween_0 : decode prog_12_method_3_code 0 = .ok (.aload_n 0, 1) := by decide +kernel
theorem d_Weights_wayBetween_1 : decode prog_12_method_3_code 1 = .ok (.getfield 9, 3) := by decide +kernel
theorem d_Weights_wayBetween_4 : decode prog_12_method_3_code 4 = .ok (.iload_n 1, 1) := by decide +kernel
theorem d_Weights_wayBetween_5 : decode prog_12_method_3_code 5 = .ok (.bipush 8, 2) := by decide +kernel
theorem d_Weights_wayBetween_7 : decode prog_12_method_3_code 7 = .ok (.imul, 1) := by decide +kernel
theorem d_Weights_wayBetween_8 : decode prog_12_method_3_code 8 = .ok (.iload_n 2, 1) := by decide +kernel
theorem d_Weights_wayBetween_9 : decode prog_12_method_3_code 9 = .ok (.iadd, 1) := by decide +kernel
theorem d_Weights_wayBetween_10 : decode prog_12_method_3_code 10 = .ok (.iaload, 1) := by decide +kernel
theorem d_Weights_wayBetween_11 : decode prog_12_method_3_code 11 = .ok (.ireturn, 1) := by decide +kernel
theorem d_Pairs_levelOf_142 : decode prog_7_method_2_code 142 = .ok (.istore 6, 2) := by decide +kernel
theorem d_Pairs_levelOf_144 : decode prog_7_method_2_code 144 = .ok (.iload 6, 2) := by decide +kernel
theorem d_Pairs_levelOf_146 : decode prog_7_method_2_code 146 = .ok (.iconst 5, 1) := by decide +kernel
theorem d_Pairs_levelOf_147 : decode prog_7_method_2_code 147 = .ok (.if_icmp .gt 7, 3) := by decide +kernel
theorem d_Pairs_levelOf_154 : decode prog_7_method_2_code 154 = .ok (.iload 6, 2) := by decide +kernel
theorem d_Pairs_levelOf_156 : decode prog_7_method_2_code 156 = .ok (.bipush 20, 2) := by decide +kernel
theorem d_Pairs_levelOf_158 : decode prog_7_method_2_code 158 = .ok (.if_icmp .gt 7, 3) := by decide +kernel
theorem d_Pairs_levelOf_165 : decode prog_7_method_2_code 165 = .ok (.iconst 3, 1) := by decide +kernel
theorem d_Pairs_levelOf_166 : decode prog_7_method_2_code 166 = .ok (.ireturn, 1) := by decide +kernel
theorem d_Pairs_levelOf_161 : decode prog_7_method_2_code 161 = .ok (.iconst 2, 1) := by decide +kernel
theorem d_Pairs_levelOf_162 : decode prog_7_method_2_code 162 = .ok (.goto 4, 3) := by decide +kernel
theorem d_Pairs_levelOf_150 : decode prog_7_method_2_code 150 = .ok (.iconst 1, 1) := by decide +kernel
theorem d_Pairs_levelOf_151 : decode prog_7_method_2_code 151 = .ok (.goto 15, 3) := by decide +kernel
theorem d_Pairs_levelOf_167 : decode prog_7_method_2_code 167 = .ok (.iconst 3, 1) := by decide +kernel
theorem d_Pairs_levelOf_168 : decode prog_7_method_2_code 168 = .ok (.ireturn, 1) := by decide +kernel
theorem d_O_level_33 : decode prog_1_method_14_code 33 = .ok (.ireturn, 1) := by decide +kernel
theorem d_O_points_0 : decode prog_1_method_15_code 0 = .ok (.iload_n 1, 1) := by decide +kernel
theorem d_O_points_1 : decode prog_1_method_15_code 1 = .ok (.iconst 4, 1) := by decide +kernel
theorem d_O_points_2 : decode prog_1_method_15_code 2 = .ok (.invokestatic 88, 3) := by decide +kernel
theorem d_O_points_5 : decode prog_1_method_15_code 5 = .ok (.ifCond .eq 22, 3) := by decide +kernel
theorem d_O_points_27 : decode prog_1_method_15_code 27 = .ok (.sipush (-1000), 3) := by decide +kernel
theorem d_O_points_30 : decode prog_1_method_15_code 30 = .ok (.ireturn, 1) := by decide +kernel
theorem d_O_points_8 : decode prog_1_method_15_code 8 = .ok (.iload_n 2, 1) := by decide +kernel
theorem d_O_points_9 : decode prog_1_method_15_code 9 = .ok (.iconst 4, 1) := by decide +kernel
theorem d_O_points_10 : decode prog_1_method_15_code 10 = .ok (.invokestatic 88, 3) := by decide +kernel
theorem d_O_points_13 : decode prog_1_method_15_code 13 = .ok (.ifCond .eq 14, 3) := by decide +kernel
theorem d_O_points_16 : decode prog_1_method_15_code 16 = .ok (.iload_n 3, 1) := by decide +kernel
theorem d_O_points_17 : decode prog_1_method_15_code 17 = .ok (.bipush (-100), 2) := by decide +kernel
theorem d_O_points_19 : decode prog_1_method_15_code 19 = .ok (.bipush 100, 2) := by decide +kernel
theorem d_O_points_21 : decode prog_1_method_15_code 21 = .ok (.invokestatic 78, 3) := by decide +kernel
theorem d_O_points_24 : decode prog_1_method_15_code 24 = .ok (.ifCond .ne 7, 3) := by decide +kernel
theorem d_O_points_31 : decode prog_1_method_15_code 31 = .ok (.aload_n 0, 1) := by decide +kernel
theorem d_O_points_32 : decode prog_1_method_15_code 32 = .ok (.getfield 42, 3) := by decide +kernel
theorem d_O_points_35 : decode prog_1_method_15_code 35 = .ok (.iload_n 1, 1) := by decide +kernel
theorem d_O_points_36 : decode prog_1_method_15_code 36 = .ok (.iload_n 2, 1) := by decide +kernel
theorem d_O_points_37 : decode prog_1_method_15_code 37 = .ok (.iload_n 3, 1) := by decide +kernel
theorem d_O_points_38 : decode prog_1_method_15_code 38 = .ok (.invokevirtual 196, 3) := by decide +kernel
theorem d_Weights_tellPoints_0 : decode prog_12_method_4_code 0 = .ok (.aload_n 0, 1) := by decide +kernel
theorem d_Weights_tellPoints_1 : decode prog_12_method_4_code 1 = .ok (.iload_n 1, 1) := by decide +kernel
theorem d_Weights_tellPoints_2 : decode prog_12_method_4_code 2 = .ok (.iload_n 2, 1) := by decide +kernel
theorem d_Weights_tellPoints_3 : decode prog_12_method_4_code 3 = .ok (.invokevirtual 43, 3) := by decide +kernel
theorem d_Weights_pointsFor_0 : decode prog_12_method_5_code 0 = .ok (.aload_n 0, 1) := by decide +kernel
theorem d_Weights_pointsFor_1 : decode prog_12_method_5_code 1 = .ok (.getfield 15, 3) := by decide +kernel
theorem d_Weights_pointsFor_4 : decode prog_12_method_5_code 4 = .ok (.iload_n 1, 1) := by decide +kernel
theorem d_Weights_pointsFor_5 : decode prog_12_method_5_code 5 = .ok (.iconst 4, 1) := by decide +kernel
theorem d_Weights_pointsFor_6 : decode prog_12_method_5_code 6 = .ok (.imul, 1) := by decide +kernel
theorem d_Weights_pointsFor_7 : decode prog_12_method_5_code 7 = .ok (.iload_n 2, 1) := by decide +kernel
theorem d_Weights_pointsFor_8 : decode prog_12_method_5_code 8 = .ok (.iadd, 1) := by decide +kernel
theorem d_Weights_pointsFor_9 : decode prog_12_method_5_code 9 = .ok (.iaload, 1) := by decide +kernel
theorem d_Weights_pointsFor_10 : decode prog_12_method_5_code 10 = .ok (.ireturn, 1) := by decide +kernel
theorem d_Weights_tellPoints_6 : decode prog_12_method_4_code 6 = .ok (.istore 4, 2) := by decide +kernel
theorem d_Weights_tellPoints_8 : decode prog_12_method_4_code 8 = .ok (.aload_n 0, 1) := by decide +kernel
theorem d_Weights_tellPoints_9 : decode prog_12_method_4_code 9 = .ok (.getfield 15, 3) := by decide +kernel
theorem d_Weights_tellPoints_12 : decode prog_12_method_4_code 12 = .ok (.iload_n 1, 1) := by decide +kernel
theorem d_Weights_tellPoints_13 : decode prog_12_method_4_code 13 = .ok (.iconst 4, 1) := by decide +kernel
theorem d_Weights_tellPoints_14 : decode prog_12_method_4_code 14 = .ok (.imul, 1) := by decide +kernel
theorem d_Weights_tellPoints_15 : decode prog_12_method_4_code 15 = .ok (.iload_n 2, 1) := by decide +kernel
theorem d_Weights_tellPoints_16 : decode prog_12_method_4_code 16 = .ok (.iadd, 1) := by decide +kernel
theorem d_Weights_tellPoints_17 : decode prog_12_method_4_code 17 = .ok (.iload_n 3, 1) := by decide +kernel
theorem d_Weights_tellPoints_18 : decode prog_12_method_4_code 18 = .ok (.iastore, 1) := by decide +kernel
theorem d_Weights_tellPoints_19 : decode prog_12_method_4_code 19 = .ok (.iload 4, 2) := by decide +kernel
theorem d_Weights_tellPoints_21 : decode prog_12_method_4_code 21 = .ok (.ireturn, 1) := by decide +kernel
theorem d_O_points_41 : decode prog_1_method_15_code 41 = .ok (.ireturn, 1) := by decide +kernel
theorem d_O_score_0 : decode prog_1_method_16_code 0 = .ok (.aload_n 0, 1) := by decide +kernel
theorem d_O_score_1 : decode prog_1_method_16_code 1 = .ok (.getfield 27, 3) := by decide +kernel
theorem d_O_score_4 : decode prog_1_method_16_code 4 = .ok (.iload_n 1, 1) := by decide +kernel
theorem d_O_score_5 : decode prog_1_method_16_code 5 = .ok (.iload_n 2, 1) := by decide +kernel
theorem d_O_score_6 : decode prog_1_method_16_code 6 = .ok (.invokevirtual 190, 3) := by decide +kernel
theorem d_O_score_9 : decode prog_1_method_16_code 9 = .ok (.ifCond .ne 7, 3) := by decide +kernel
theorem d_O_score_12 : decode prog_1_method_16_code 12 = .ok (.sipush (-1000), 3) := by decide +kernel
theorem d_O_score_15 : decode prog_1_method_16_code 15 = .ok (.ireturn, 1) := by decide +kernel
theorem d_O_score_16 : decode prog_1_method_16_code 16 = .ok (.aload_n 0, 1) := by decide +kernel
theorem d_O_score_17 : decode prog_1_method_16_code 17 = .ok (.getfield 19, 3) := by decide +kernel
theorem d_O_score_20 : decode prog_1_method_16_code 20 = .ok (.iload_n 1, 1) := by decide +kernel
theorem d_O_score_21 : decode prog_1_method_16_code 21 = .ok (.iload_n 2, 1) := by decide +kernel
theorem d_O_score_22 : decode prog_1_method_16_code 22 = .ok (.invokevirtual 199, 3) := by decide +kernel
theorem d_Pairs_scoreOf_0 : decode prog_7_method_3_code 0 = .ok (.iconst 0, 1) := by decide +kernel
theorem d_Pairs_scoreOf_1 : decode prog_7_method_3_code 1 = .ok (.istore_n 3, 1) := by decide +kernel
theorem d_Pairs_scoreOf_2 : decode prog_7_method_3_code 2 = .ok (.iconst 0, 1) := by decide +kernel
theorem d_Pairs_scoreOf_3 : decode prog_7_method_3_code 3 = .ok (.istore 4, 2) := by decide +kernel
theorem d_Pairs_scoreOf_5 : decode prog_7_method_3_code 5 = .ok (.iload 4, 2) := by decide +kernel
theorem d_Pairs_scoreOf_7 : decode prog_7_method_3_code 7 = .ok (.iconst 4, 1) := by decide +kernel
theorem d_Pairs_scoreOf_8 : decode prog_7_method_3_code 8 = .ok (.if_icmp .ge 39, 3) := by decide +kernel
theorem d_Pairs_scoreOf_47 : decode prog_7_method_3_code 47 = .ok (.iload_n 3, 1) := by decide +kernel
theorem d_Pairs_scoreOf_48 : decode prog_7_method_3_code 48 = .ok (.ireturn, 1) := by decide +kernel
theorem d_Pairs_scoreOf_11 : decode prog_7_method_3_code 11 = .ok (.aload_n 0, 1) := by decide +kernel
theorem d_Pairs_scoreOf_12 : decode prog_7_method_3_code 12 = .ok (.iload_n 1, 1) := by decide +kernel
theorem d_Pairs_scoreOf_13 : decode prog_7_method_3_code 13 = .ok (.iload_n 2, 1) := by decide +kernel
theorem d_Pairs_scoreOf_14 : decode prog_7_method_3_code 14 = .ok (.iload 4, 2) := by decide +kernel
theorem d_Pairs_scoreOf_16 : decode prog_7_method_3_code 16 = .ok (.invokevirtual 59, 3) := by decide +kernel
theorem d_Pairs_scoreOf_19 : decode prog_7_method_3_code 19 = .ok (.istore 5, 2) := by decide +kernel
theorem d_Pairs_scoreOf_21 : decode prog_7_method_3_code 21 = .ok (.iload 5, 2) := by decide +kernel
theorem d_Pairs_scoreOf_23 : decode prog_7_method_3_code 23 = .ok (.iconst (-1), 1) := by decide +kernel
theorem d_Pairs_scoreOf_24 : decode prog_7_method_3_code 24 = .ok (.if_icmp .eq 17, 3) := by decide +kernel
theorem d_Pairs_scoreOf_27 : decode prog_7_method_3_code 27 = .ok (.iload_n 3, 1) := by decide +kernel
theorem d_Pairs_scoreOf_28 : decode prog_7_method_3_code 28 = .ok (.aload_n 0, 1) := by decide +kernel
theorem d_Pairs_scoreOf_29 : decode prog_7_method_3_code 29 = .ok (.getfield 35, 3) := by decide +kernel
theorem d_Pairs_scoreOf_32 : decode prog_7_method_3_code 32 = .ok (.iload 4, 2) := by decide +kernel
theorem d_Pairs_scoreOf_34 : decode prog_7_method_3_code 34 = .ok (.iload 5, 2) := by decide +kernel
theorem d_Pairs_scoreOf_36 : decode prog_7_method_3_code 36 = .ok (.invokevirtual 63, 3) := by decide +kernel
theorem d_Pairs_scoreOf_39 : decode prog_7_method_3_code 39 = .ok (.iadd, 1) := by decide +kernel
theorem d_Pairs_scoreOf_40 : decode prog_7_method_3_code 40 = .ok (.istore_n 3, 1) := by decide +kernel
theorem d_Pairs_scoreOf_41 : decode prog_7_method_3_code 41 = .ok (.iinc 4 1, 3) := by decide +kernel
theorem d_Pairs_scoreOf_44 : decode prog_7_method_3_code 44 = .ok (.goto (-39), 3) := by decide +kernel
theorem d_O_score_25 : decode prog_1_method_16_code 25 = .ok (.ireturn, 1) := by decide +kernel
theorem d_O_chance_0 : decode prog_1_method_17_code 0 = .ok (.iload_n 2, 1) := by decide +kernel
theorem d_O_chance_1 : decode prog_1_method_17_code 1 = .ok (.iconst 4, 1) := by decide +kernel
theorem d_O_chance_2 : decode prog_1_method_17_code 2 = .ok (.invokestatic 88, 3) := by decide +kernel
theorem d_O_chance_5 : decode prog_1_method_17_code 5 = .ok (.ifCond .eq 23, 3) := by decide +kernel
theorem d_O_chance_28 : decode prog_1_method_17_code 28 = .ok (.bipush (-2), 2) := by decide +kernel
theorem d_O_chance_30 : decode prog_1_method_17_code 30 = .ok (.ireturn, 1) := by decide +kernel
theorem d_O_chance_8 : decode prog_1_method_17_code 8 = .ok (.iload_n 3, 1) := by decide +kernel
theorem d_O_chance_9 : decode prog_1_method_17_code 9 = .ok (.iconst 4, 1) := by decide +kernel
theorem d_O_chance_10 : decode prog_1_method_17_code 10 = .ok (.invokestatic 88, 3) := by decide +kernel
theorem d_O_chance_13 : decode prog_1_method_17_code 13 = .ok (.ifCond .eq 15, 3) := by decide +kernel
theorem d_O_chance_16 : decode prog_1_method_17_code 16 = .ok (.iload 4, 2) := by decide +kernel
theorem d_O_chance_18 : decode prog_1_method_17_code 18 = .ok (.iconst 1, 1) := by decide +kernel
theorem d_O_chance_19 : decode prog_1_method_17_code 19 = .ok (.sipush 1000, 3) := by decide +kernel
theorem d_O_chance_22 : decode prog_1_method_17_code 22 = .ok (.invokestatic 78, 3) := by decide +kernel
theorem d_O_chance_25 : decode prog_1_method_17_code 25 = .ok (.ifCond .ne 6, 3) := by decide +kernel
theorem d_O_chance_31 : decode prog_1_method_17_code 31 = .ok (.aload_n 0, 1) := by decide +kernel
theorem d_O_chance_32 : decode prog_1_method_17_code 32 = .ok (.getfield 42, 3) := by decide +kernel
theorem d_O_chance_35 : decode prog_1_method_17_code 35 = .ok (.iload_n 1, 1) := by decide +kernel
theorem d_O_chance_36 : decode prog_1_method_17_code 36 = .ok (.iload_n 2, 1) := by decide +kernel
theorem d_O_chance_37 : decode prog_1_method_17_code 37 = .ok (.iload_n 3, 1) := by decide +kernel
theorem d_O_chance_38 : decode prog_1_method_17_code 38 = .ok (.iload 4, 2) := by decide +kernel
theorem d_O_chance_40 : decode prog_1_method_17_code 40 = .ok (.invokevirtual 202, 3) := by decide +kernel
theorem d_Weights_tellChance_0 : decode prog_12_method_6_code 0 = .ok (.aload_n 0, 1) := by decide +kernel
theorem d_Weights_tellChance_1 : decode prog_12_method_6_code 1 = .ok (.iload_n 1, 1) := by decide +kernel
theorem d_Weights_tellChance_2 : decode prog_12_method_6_code 2 = .ok (.iload_n 2, 1) := by decide +kernel
theorem d_Weights_tellChance_3 : decode prog_12_method_6_code 3 = .ok (.iload_n 3, 1) := by decide +kernel
theorem d_Weights_tellChance_4 : decode prog_12_method_6_code 4 = .ok (.invokevirtual 47, 3) := by decide +kernel
theorem d_Weights_chanceFor_0 : decode prog_12_method_7_code 0 = .ok (.iload_n 2, 1) := by decide +kernel
theorem d_Weights_chanceFor_1 : decode prog_12_method_7_code 1 = .ok (.iconst 4, 1) := by decide +kernel
theorem d_Weights_chanceFor_2 : decode prog_12_method_7_code 2 = .ok (.imul, 1) := by decide +kernel
theorem d_Weights_chanceFor_3 : decode prog_12_method_7_code 3 = .ok (.iload_n 3, 1) := by decide +kernel
theorem d_Weights_chanceFor_4 : decode prog_12_method_7_code 4 = .ok (.iadd, 1) := by decide +kernel
theorem d_Weights_chanceFor_5 : decode prog_12_method_7_code 5 = .ok (.istore 4, 2) := by decide +kernel
theorem d_Weights_chanceFor_7 : decode prog_12_method_7_code 7 = .ok (.iload_n 1, 1) := by decide +kernel
theorem d_Weights_chanceFor_8 : decode prog_12_method_7_code 8 = .ok (.ifCond .eq 13, 3) := by decide +kernel
theorem d_Weights_chanceFor_21 : decode prog_12_method_7_code 21 = .ok (.aload_n 0, 1) := by decide +kernel
theorem d_Weights_chanceFor_22 : decode prog_12_method_7_code 22 = .ok (.getfield 21, 3) := by decide +kernel
theorem d_Weights_chanceFor_25 : decode prog_12_method_7_code 25 = .ok (.iload 4, 2) := by decide +kernel
theorem d_Weights_chanceFor_27 : decode prog_12_method_7_code 27 = .ok (.iaload, 1) := by decide +kernel
theorem d_Weights_chanceFor_28 : decode prog_12_method_7_code 28 = .ok (.ireturn, 1) := by decide +kernel
theorem d_Weights_chanceFor_11 : decode prog_12_method_7_code 11 = .ok (.aload_n 0, 1) := by decide +kernel
theorem d_Weights_chanceFor_12 : decode prog_12_method_7_code 12 = .ok (.getfield 18, 3) := by decide +kernel
theorem d_Weights_chanceFor_15 : decode prog_12_method_7_code 15 = .ok (.iload 4, 2) := by decide +kernel
theorem d_Weights_chanceFor_17 : decode prog_12_method_7_code 17 = .ok (.iaload, 1) := by decide +kernel
theorem d_Weights_chanceFor_18 : decode prog_12_method_7_code 18 = .ok (.goto 10, 3) := by decide +kernel
theorem d_Weights_tellChance_7 : decode prog_12_method_6_code 7 = .ok (.istore 5, 2) := by decide +kernel
theorem d_Weights_tellChance_9 : decode prog_12_method_6_code 9 = .ok (.iload_n 1, 1) := by decide +kernel
theorem d_Weights_tellChance_10 : decode prog_12_method_6_code 10 = .ok (.ifCond .eq 18, 3) := by decide +kernel
theorem d_Weights_tellChance_28 : decode prog_12_method_6_code 28 = .ok (.aload_n 0, 1) := by decide +kernel
theorem d_Weights_tellChance_29 : decode prog_12_method_6_code 29 = .ok (.getfield 21, 3) := by decide +kernel
theorem d_Weights_tellChance_32 : decode prog_12_method_6_code 32 = .ok (.iload_n 2, 1) := by decide +kernel
theorem d_Weights_tellChance_33 : decode prog_12_method_6_code 33 = .ok (.iconst 4, 1) := by decide +kernel
theorem d_Weights_tellChance_34 : decode prog_12_method_6_code 34 = .ok (.imul, 1) := by decide +kernel
theorem d_Weights_tellChance_35 : decode prog_12_method_6_code 35 = .ok (.iload_n 3, 1) := by decide +kernel
theorem d_Weights_tellChance_36 : decode prog_12_method_6_code 36 = .ok (.iadd, 1) := by decide +kernel
theorem d_Weights_tellChance_37 : decode prog_12_method_6_code 37 = .ok (.iload 4, 2) := by decide +kernel
theorem d_Weights_tellChance_39 : decode prog_12_method_6_code 39 = .ok (.iastore, 1) := by decide +kernel
theorem d_Weights_tellChance_40 : decode prog_12_method_6_code 40 = .ok (.iload 5, 2) := by decide +kernel
theorem d_Weights_tellChance_42 : decode prog_12_method_6_code 42 = .ok (.ireturn, 1) := by decide +kernel
theorem d_Weights_tellChance_13 : decode prog_12_method_6_code 13 = .ok (.aload_n 0, 1) := by decide +kernel
theorem d_Weights_tellChance_14 : decode prog_12_method_6_code 14 = .ok (.getfield 18, 3) := by decide +kernel
theorem d_Weights_tellChance_17 : decode prog_12_method_6_code 17 = .ok (.iload_n 2, 1) := by decide +kernel
theorem d_Weights_tellChance_18 : decode prog_12_method_6_code 18 = .ok (.iconst 4, 1) := by decide +kernel
theorem d_Weights_tellChance_19 : decode prog_12_method_6_code 19 = .ok (.imul, 1) := by decide +kernel
theorem d_Weights_tellChance_20 : decode prog_12_method_6_code 20 = .ok (.iload_n 3, 1) := by decide +kernel
theorem d_Weights_tellChance_21 : decode prog_12_method_6_code 21 = .ok (.iadd, 1) := by decide +kernel
theorem d_Weights_tellChance_22 : decode prog_12_method_6_code 22 = .ok (.iload 4, 2) := by decide +kernel
theorem d_Weights_tellChance_24 : decode prog_12_method_6_code 24 = .ok (.iastore, 1) := by decide +kernel
theorem d_Weights_tellChance_25 : decode prog_12_method_6_code 25 = .ok (.goto 15, 3) := by decide +kernel
theorem d_O_chance_43 : decode prog_1_method_17_code 43 = .ok (.ireturn, 1) := by decide +kernel
theorem d_O_odds_0 : decode prog_1_method_18_code 0 = .ok (.aload_n 0, 1) := by decide +kernel
theorem d_O_odds_1 : decode prog_1_method_18_code 1 = .ok (.getfield 27, 3) := by decide +kernel
theorem d_O_odds_4 : decode prog_1_method_18_code 4 = .ok (.iload_n 1, 1) := by decide +kernel
theorem d_O_odds_5 : decode prog_1_method_18_code 5 = .ok (.iload_n 2, 1) := by decide +kernel
theorem d_O_odds_6 : decode prog_1_method_18_code 6 = .ok (.invokevirtual 190, 3) := by decide +kernel
theorem d_O_odds_9 : decode prog_1_method_18_code 9 = .ok (.ifCond .eq 11, 3) := by decide +kernel
theorem d_O_odds_20 : decode prog_1_method_18_code 20 = .ok (.ldc2_w 206, 3) := by decide +kernel
theorem d_O_odds_23 : decode prog_1_method_18_code 23 = .ok (.lreturn, 1) := by decide +kernel
theorem d_O_odds_12 : decode prog_1_method_18_code 12 = .ok (.iload_n 3, 1) := by decide +kernel
theorem d_O_odds_13 : decode prog_1_method_18_code 13 = .ok (.iconst 2, 1) := by decide +kernel
theorem d_O_odds_14 : decode prog_1_method_18_code 14 = .ok (.invokestatic 88, 3) := by decide +kernel
theorem d_O_odds_17 : decode prog_1_method_18_code 17 = .ok (.ifCond .ne 7, 3) := by decide +kernel
theorem d_O_odds_24 : decode prog_1_method_18_code 24 = .ok (.aload_n 0, 1) := by decide +kernel
theorem d_O_odds_25 : decode prog_1_method_18_code 25 = .ok (.getfield 19, 3) := by decide +kernel
theorem d_O_odds_28 : decode prog_1_method_18_code 28 = .ok (.iload_n 1, 1) := by decide +kernel
theorem d_O_odds_29 : decode prog_1_method_18_code 29 = .ok (.iload_n 2, 1) := by decide +kernel
theorem d_O_odds_30 : decode prog_1_method_18_code 30 = .ok (.iconst 1, 1) := by decide +kernel
theorem d_O_odds_31 : decode prog_1_method_18_code 31 = .ok (.invokevirtual 208, 3) := by decide +kernel
theorem d_Pairs_chancesOf_0 : decode prog_7_method_4_code 0 = .ok (.lconst 1, 1) := by decide +kernel
theorem d_Pairs_chancesOf_1 : decode prog_7_method_4_code 1 = .ok (.lstore 4, 2) := by decide +kernel
theorem d_Pairs_chancesOf_3 : decode prog_7_method_4_code 3 = .ok (.iconst 0, 1) := by decide +kernel
theorem d_Pairs_chancesOf_4 : decode prog_7_method_4_code 4 = .ok (.istore 6, 2) := by decide +kernel
theorem d_Pairs_chancesOf_6 : decode prog_7_method_4_code 6 = .ok (.iload 6, 2) := by decide +kernel
theorem d_Pairs_chancesOf_8 : decode prog_7_method_4_code 8 = .ok (.iconst 4, 1) := by decide +kernel
theorem d_Pairs_chancesOf_9 : decode prog_7_method_4_code 9 = .ok (.if_icmp .ge 43, 3) := by decide +kernel
theorem d_Pairs_chancesOf_52 : decode prog_7_method_4_code 52 = .ok (.lload 4, 2) := by decide +kernel
theorem d_Pairs_chancesOf_54 : decode prog_7_method_4_code 54 = .ok (.lreturn, 1) := by decide +kernel
theorem d_Pairs_chancesOf_12 : decode prog_7_method_4_code 12 = .ok (.aload_n 0, 1) := by decide +kernel
theorem d_Pairs_chancesOf_13 : decode prog_7_method_4_code 13 = .ok (.iload_n 1, 1) := by decide +kernel
theorem d_Pairs_chancesOf_14 : decode prog_7_method_4_code 14 = .ok (.iload_n 2, 1) := by decide +kernel
theorem d_Pairs_chancesOf_15 : decode prog_7_method_4_code 15 = .ok (.iload 6, 2) := by decide +kernel
theorem d_Pairs_chancesOf_17 : decode prog_7_method_4_code 17 = .ok (.invokevirtual 59, 3) := by decide +kernel
theorem d_Pairs_chancesOf_20 : decode prog_7_method_4_code 20 = .ok (.istore 7, 2) := by decide +kernel
theorem d_Pairs_chancesOf_22 : decode prog_7_method_4_code 22 = .ok (.iload 7, 2) := by decide +kernel
theorem d_Pairs_chancesOf_24 : decode prog_7_method_4_code 24 = .ok (.iconst (-1), 1) := by decide +kernel
theorem d_Pairs_chancesOf_25 : decode prog_7_method_4_code 25 = .ok (.if_icmp .eq 21, 3) := by decide +kernel
theorem d_Pairs_chancesOf_28 : decode prog_7_method_4_code 28 = .ok (.lload 4, 2) := by decide +kernel
theorem d_Pairs_chancesOf_30 : decode prog_7_method_4_code 30 = .ok (.aload_n 0, 1) := by decide +kernel
theorem d_Pairs_chancesOf_31 : decode prog_7_method_4_code 31 = .ok (.getfield 35, 3) := by decide +kernel
theorem d_Pairs_chancesOf_34 : decode prog_7_method_4_code 34 = .ok (.iload_n 3, 1) := by decide +kernel
theorem d_Pairs_chancesOf_35 : decode prog_7_method_4_code 35 = .ok (.iload 6, 2) := by decide +kernel
theorem d_Pairs_chancesOf_37 : decode prog_7_method_4_code 37 = .ok (.iload 7, 2) := by decide +kernel
theorem d_Pairs_chancesOf_39 : decode prog_7_method_4_code 39 = .ok (.invokevirtual 66, 3) := by decide +kernel
theorem d_Pairs_chancesOf_42 : decode prog_7_method_4_code 42 = .ok (.i2l, 1) := by decide +kernel
theorem d_Pairs_chancesOf_43 : decode prog_7_method_4_code 43 = .ok (.lmul, 1) := by decide +kernel
theorem d_Pairs_chancesOf_44 : decode prog_7_method_4_code 44 = .ok (.lstore 4, 2) := by decide +kernel
theorem d_Pairs_chancesOf_46 : decode prog_7_method_4_code 46 = .ok (.iinc 6 1, 3) := by decide +kernel
theorem d_Pairs_chancesOf_49 : decode prog_7_method_4_code 49 = .ok (.goto (-43), 3) := by decide +kernel
theorem d_O_odds_34 : decode prog_1_method_18_code 34 = .ok (.lstore 4, 2) := by decide +kernel
theorem d_O_odds_36 : decode prog_1_method_18_code 36 = .ok (.aload_n 0, 1) := by decide +kernel
theorem d_O_odds_37 : decode prog_1_method_18_code 37 = .ok (.getfield 19, 3) := by decide +kernel
theorem d_O_odds_40 : decode prog_1_method_18_code 40 = .ok (.iload_n 1, 1) := by decide +kernel
theorem d_O_odds_41 : decode prog_1_method_18_code 41 = .ok (.iload_n 2, 1) := by decide +kernel
theorem d_O_odds_42 : decode prog_1_method_18_code 42 = .ok (.iconst 0, 1) := by decide +kernel
theorem d_O_odds_43 : decode prog_1_method_18_code 43 = .ok (.invokevirtual 208, 3) := by decide +kernel
theorem d_O_odds_46 : decode prog_1_method_18_code 46 = .ok (.lstore 6, 2) := by decide +kernel
theorem d_O_odds_48 : decode prog_1_method_18_code 48 = .ok (.lload 4, 2) := by decide +kernel
theorem d_O_odds_50 : decode prog_1_method_18_code 50 = .ok (.lload 6, 2) := by decide +kernel
theorem d_O_odds_52 : decode prog_1_method_18_code 52 = .ok (.invokestatic 212, 3) := by decide +kernel
theorem d_Pairs_greatestDivisor_0 : decode prog_7_method_5_code 0 = .ok (.lload_n 0, 1) := by decide +kernel
theorem d_Pairs_greatestDivisor_1 : decode prog_7_method_5_code 1 = .ok (.lstore 4, 2) := by decide +kernel
theorem d_Pairs_greatestDivisor_3 : decode prog_7_method_5_code 3 = .ok (.lload_n 2, 1) := by decide +kernel
theorem d_Pairs_greatestDivisor_4 : decode prog_7_method_5_code 4 = .ok (.lstore 6, 2) := by decide +kernel
theorem d_Pairs_greatestDivisor_6 : decode prog_7_method_5_code 6 = .ok (.iconst 0, 1) := by decide +kernel
theorem d_Pairs_greatestDivisor_7 : decode prog_7_method_5_code 7 = .ok (.istore 8, 2) := by decide +kernel
theorem d_Pairs_greatestDivisor_9 : decode prog_7_method_5_code 9 = .ok (.iload 8, 2) := by decide +kernel
theorem d_Pairs_greatestDivisor_11 : decode prog_7_method_5_code 11 = .ok (.sipush 200, 3) := by decide +kernel
theorem d_Pairs_greatestDivisor_14 : decode prog_7_method_5_code 14 = .ok (.if_icmp .ge 31, 3) := by decide +kernel
theorem d_Pairs_greatestDivisor_17 : decode prog_7_method_5_code 17 = .ok (.lload 6, 2) := by decide +kernel
theorem d_Pairs_greatestDivisor_19 : decode prog_7_method_5_code 19 = .ok (.lconst 0, 1) := by decide +kernel
theorem d_Pairs_greatestDivisor_20 : decode prog_7_method_5_code 20 = .ok (.lcmp, 1) := by decide +kernel
theorem d_Pairs_greatestDivisor_21 : decode prog_7_method_5_code 21 = .ok (.ifCond .eq 24, 3) := by decide +kernel
theorem d_Pairs_greatestDivisor_24 : decode prog_7_method_5_code 24 = .ok (.lload 4, 2) := by decide +kernel
theorem d_Pairs_greatestDivisor_26 : decode prog_7_method_5_code 26 = .ok (.lload 6, 2) := by decide +kernel
theorem d_Pairs_greatestDivisor_28 : decode prog_7_method_5_code 28 = .ok (.lrem, 1) := by decide +kernel
theorem d_Pairs_greatestDivisor_29 : decode prog_7_method_5_code 29 = .ok (.lstore 9, 2) := by decide +kernel
theorem d_Pairs_greatestDivisor_31 : decode prog_7_method_5_code 31 = .ok (.lload 6, 2) := by decide +kernel
theorem d_Pairs_greatestDivisor_33 : decode prog_7_method_5_code 33 = .ok (.lstore 4, 2) := by decide +kernel
theorem d_Pairs_greatestDivisor_35 : decode prog_7_method_5_code 35 = .ok (.lload 9, 2) := by decide +kernel
theorem d_Pairs_greatestDivisor_37 : decode prog_7_method_5_code 37 = .ok (.lstore 6, 2) := by decide +kernel
theorem d_Pairs_greatestDivisor_39 : decode prog_7_method_5_code 39 = .ok (.iinc 8 1, 3) := by decide +kernel
theorem d_Pairs_greatestDivisor_42 : decode prog_7_method_5_code 42 = .ok (.goto (-33), 3) := by decide +kernel
theorem d_Pairs_greatestDivisor_45 : decode prog_7_method_5_code 45 = .ok (.lconst 1, 1) := by decide +kernel
theorem d_Pairs_greatestDivisor_46 : decode prog_7_method_5_code 46 = .ok (.lload 4, 2) := by decide +kernel
theorem d_Pairs_greatestDivisor_48 : decode prog_7_method_5_code 48 = .ok (.invokestatic 70, 3) := by decide +kernel
theorem d_Pairs_greatestDivisor_51 : decode prog_7_method_5_code 51 = .ok (.lreturn, 1) := by decide +kernel
theorem d_O_odds_55 : decode prog_1_method_18_code 55 = .ok (.lstore 8, 2) := by decide +kernel
theorem d_O_odds_57 : decode prog_1_method_18_code 57 = .ok (.iload_n 3, 1) := by decide +kernel
theorem d_O_odds_58 : decode prog_1_method_18_code 58 = .ok (.ifCond .ne 8, 3) := by decide +kernel
theorem d_O_odds_61 : decode prog_1_method_18_code 61 = .ok (.lload 4, 2) := by decide +kernel
theorem d_O_odds_63 : decode prog_1_method_18_code 63 = .ok (.goto 5, 3) := by decide +kernel
theorem d_O_odds_68 : decode prog_1_method_18_code 68 = .ok (.lload 8, 2) := by decide +kernel
theorem d_O_odds_70 : decode prog_1_method_18_code 70 = .ok (.ldiv, 1) := by decide +kernel
theorem d_O_odds_71 : decode prog_1_method_18_code 71 = .ok (.lreturn, 1) := by decide +kernel
theorem d_O_odds_66 : decode prog_1_method_18_code 66 = .ok (.lload 6, 2) := by decide +kernel
theorem d_O_belief_0 : decode prog_1_method_19_code 0 = .ok (.aload_n 0, 1) := by decide +kernel
theorem d_O_belief_1 : decode prog_1_method_19_code 1 = .ok (.getfield 27, 3) := by decide +kernel
theorem d_O_belief_4 : decode prog_1_method_19_code 4 = .ok (.iload_n 1, 1) := by decide +kernel
theorem d_O_belief_5 : decode prog_1_method_19_code 5 = .ok (.iload_n 2, 1) := by decide +kernel
theorem d_O_belief_6 : decode prog_1_method_19_code 6 = .ok (.invokevirtual 190, 3) := by decide +kernel
theorem d_O_belief_9 : decode prog_1_method_19_code 9 = .ok (.ifCond .eq 27, 3) := by decide +kernel
theorem d_O_belief_36 : decode prog_1_method_19_code 36 = .ok (.bipush (-2), 2) := by decide +kernel
theorem d_O_belief_38 : decode prog_1_method_19_code 38 = .ok (.ireturn, 1) := by decide +kernel
theorem d_O_belief_12 : decode prog_1_method_19_code 12 = .ok (.iload_n 3, 1) := by decide +kernel
theorem d_O_belief_13 : decode prog_1_method_19_code 13 = .ok (.iconst 1, 1) := by decide +kernel
theorem d_O_belief_14 : decode prog_1_method_19_code 14 = .ok (.sipush 1000, 3) := by decide +kernel
theorem d_O_belief_17 : decode prog_1_method_19_code 17 = .ok (.invokestatic 78, 3) := by decide +kernel
theorem d_O_belief_20 : decode prog_1_method_19_code 20 = .ok (.ifCond .eq 16, 3) := by decide +kernel
theorem d_O_belief_23 : decode prog_1_method_19_code 23 = .ok (.iload 4, 2) := by decide +kernel
theorem d_O_belief_25 : decode prog_1_method_19_code 25 = .ok (.iload_n 3, 1) := by decide +kernel
theorem d_O_belief_26 : decode prog_1_method_19_code 26 = .ok (.iconst 1, 1) := by decide +kernel
theorem d_O_belief_27 : decode prog_1_method_19_code 27 = .ok (.iadd, 1) := by decide +kernel
theorem d_O_belief_28 : decode prog_1_method_19_code 28 = .ok (.ldc 216, 2) := by decide +kernel
theorem d_O_belief_30 : decode prog_1_method_19_code 30 = .ok (.invokestatic 78, 3) := by decide +kernel
theorem d_O_belief_33 : decode prog_1_method_19_code 33 = .ok (.ifCond .ne 6, 3) := by decide +kernel
theorem d_O_belief_39 : decode prog_1_method_19_code 39 = .ok (.iload_n 3, 1) := by decide +kernel
theorem d_O_belief_40 : decode prog_1_method_19_code 40 = .ok (.i2l, 1) := by decide +kernel
theorem d_O_belief_41 : decode prog_1_method_19_code 41 = .ok (.aload_n 0, 1) := by decide +kernel
theorem d_O_belief_42 : decode prog_1_method_19_code 42 = .ok (.getfield 19, 3) := by decide +kernel
theorem d_O_belief_45 : decode prog_1_method_19_code 45 = .ok (.iload_n 1, 1) := by decide +kernel
theorem d_O_belief_46 : decode prog_1_method_19_code 46 = .ok (.iload_n 2, 1) := by decide +kernel
theorem d_O_belief_47 : decode prog_1_method_19_code 47 = .ok (.iconst 1, 1) := by decide +kernel
theorem d_O_belief_48 : decode prog_1_method_19_code 48 = .ok (.invokevirtual 208, 3) := by decide +kernel
theorem d_O_belief_51 : decode prog_1_method_19_code 51 = .ok (.lmul, 1) := by decide +kernel
theorem d_O_belief_52 : decode prog_1_method_19_code 52 = .ok (.lstore 5, 2) := by decide +kernel
theorem d_O_belief_54 : decode prog_1_method_19_code 54 = .ok (.iload 4, 2) := by decide +kernel
theorem d_O_belief_56 : decode prog_1_method_19_code 56 = .ok (.iload_n 3, 1) := by decide +kernel
theorem d_O_belief_57 : decode prog_1_method_19_code 57 = .ok (.isub, 1) := by decide +kernel
theorem d_O_belief_58 : decode prog_1_method_19_code 58 = .ok (.i2l, 1) := by decide +kernel
theorem d_O_belief_59 : decode prog_1_method_19_code 59 = .ok (.aload_n 0, 1) := by decide +kernel
theorem d_O_belief_60 : decode prog_1_method_19_code 60 = .ok (.getfield 19, 3) := by decide +kernel
theorem d_O_belief_63 : decode prog_1_method_19_code 63 = .ok (.iload_n 1, 1) := by decide +kernel
theorem d_O_belief_64 : decode prog_1_method_19_code 64 = .ok (.iload_n 2, 1) := by decide +kernel
theorem d_O_belief_65 : decode prog_1_method_19_code 65 = .ok (.iconst 0, 1) := by decide +kernel
theorem d_O_belief_66 : decode prog_1_method_19_code 66 = .ok (.invokevirtual 208, 3) := by decide +kernel
theorem d_O_belief_69 : decode prog_1_method_19_code 69 = .ok (.lmul, 1) := by decide +kernel
theorem d_O_belief_70 : decode prog_1_method_19_code 70 = .ok (.lstore 7, 2) := by decide +kernel
theorem d_O_belief_72 : decode prog_1_method_19_code 72 = .ok (.lload 5, 2) := by decide +kernel
theorem d_O_belief_74 : decode prog_1_method_19_code 74 = .ok (.lload 5, 2) := by decide +kernel
theorem d_O_belief_76 : decode prog_1_method_19_code 76 = .ok (.lload 7, 2) := by decide +kernel
theorem d_O_belief_78 : decode prog_1_method_19_code 78 = .ok (.ladd, 1) := by decide +kernel
theorem d_O_belief_79 : decode prog_1_method_19_code 79 = .ok (.invokestatic 217, 3) := by decide +kernel
theorem d_Pairs_millionths_0 : decode prog_7_method_6_code 0 = .ok (.lload_n 2, 1) := by decide +kernel
theorem d_Pairs_millionths_1 : decode prog_7_method_6_code 1 = .ok (.lconst 1, 1) := by decide +kernel
theorem d_Pairs_millionths_2 : decode prog_7_method_6_code 2 = .ok (.lcmp, 1) := by decide +kernel
theorem d_Pairs_millionths_3 : decode prog_7_method_6_code 3 = .ok (.ifCond .ge 5, 3) := by decide +kernel
theorem d_Pairs_millionths_8 : decode prog_7_method_6_code 8 = .ok (.iconst 0, 1) := by decide +kernel
theorem d_Pairs_millionths_9 : decode prog_7_method_6_code 9 = .ok (.istore 4, 2) := by decide +kernel
theorem d_Pairs_millionths_11 : decode prog_7_method_6_code 11 = .ok (.lload_n 0, 1) := by decide +kernel
theorem d_Pairs_millionths_12 : decode prog_7_method_6_code 12 = .ok (.lstore 5, 2) := by decide +kernel
theorem d_Pairs_millionths_14 : decode prog_7_method_6_code 14 = .ok (.iconst 0, 1) := by decide +kernel
theorem d_Pairs_millionths_15 : decode prog_7_method_6_code 15 = .ok (.istore 7, 2) := by decide +kernel
theorem d_Pairs_millionths_6 : decode prog_7_method_6_code 6 = .ok (.iconst 0, 1) := by decide +kernel
theorem d_Pairs_millionths_7 : decode prog_7_method_6_code 7 = .ok (.ireturn, 1) := by decide +kernel
theorem d_Pairs_millionths_17 : decode prog_7_method_6_code 17 = .ok (.iload 7, 2) := by decide +kernel
theorem d_Pairs_millionths_19 : decode prog_7_method_6_code 19 = .ok (.bipush 6, 2) := by decide +kernel
theorem d_Pairs_millionths_21 : decode prog_7_method_6_code 21 = .ok (.if_icmp .ge 36, 3) := by decide +kernel
theorem d_Pairs_millionths_57 : decode prog_7_method_6_code 57 = .ok (.iload 4, 2) := by decide +kernel
theorem d_Pairs_millionths_59 : decode prog_7_method_6_code 59 = .ok (.ireturn, 1) := by decide +kernel
theorem d_Pairs_millionths_24 : decode prog_7_method_6_code 24 = .ok (.lload 5, 2) := by decide +kernel
theorem d_Pairs_millionths_26 : decode prog_7_method_6_code 26 = .ok (.ldc2_w 74, 3) := by decide +kernel
theorem d_Pairs_millionths_29 : decode prog_7_method_6_code 29 = .ok (.lmul, 1) := by decide +kernel
theorem d_Pairs_millionths_30 : decode prog_7_method_6_code 30 = .ok (.lstore 5, 2) := by decide +kernel
theorem d_Pairs_millionths_32 : decode prog_7_method_6_code 32 = .ok (.iload 4, 2) := by decide +kernel
theorem d_Pairs_millionths_34 : decode prog_7_method_6_code 34 = .ok (.bipush 10, 2) := by decide +kernel
theorem d_Pairs_millionths_36 : decode prog_7_method_6_code 36 = .ok (.imul, 1) := by decide +kernel
theorem d_Pairs_millionths_37 : decode prog_7_method_6_code 37 = .ok (.lload 5, 2) := by decide +kernel
theorem d_Pairs_millionths_39 : decode prog_7_method_6_code 39 = .ok (.lload_n 2, 1) := by decide +kernel
theorem d_Pairs_millionths_40 : decode prog_7_method_6_code 40 = .ok (.ldiv, 1) := by decide +kernel
theorem d_Pairs_millionths_41 : decode prog_7_method_6_code 41 = .ok (.l2i, 1) := by decide +kernel
theorem d_Pairs_millionths_42 : decode prog_7_method_6_code 42 = .ok (.iadd, 1) := by decide +kernel
theorem d_Pairs_millionths_43 : decode prog_7_method_6_code 43 = .ok (.istore 4, 2) := by decide +kernel
theorem d_Pairs_millionths_45 : decode prog_7_method_6_code 45 = .ok (.lload 5, 2) := by decide +kernel
theorem d_Pairs_millionths_47 : decode prog_7_method_6_code 47 = .ok (.lload_n 2, 1) := by decide +kernel
theorem d_Pairs_millionths_48 : decode prog_7_method_6_code 48 = .ok (.lrem, 1) := by decide +kernel
theorem d_Pairs_millionths_49 : decode prog_7_method_6_code 49 = .ok (.lstore 5, 2) := by decide +kernel
theorem d_Pairs_millionths_51 : decode prog_7_method_6_code 51 = .ok (.iinc 7 1, 3) := by decide +kernel
theorem d_Pairs_millionths_54 : decode prog_7_method_6_code 54 = .ok (.goto (-37), 3) := by decide +kernel
theorem d_O_belief_82 : decode prog_1_method_19_code 82 = .ok (.ireturn, 1) := by decide +kernel
theorem d_O_line_0 : decode prog_1_method_20_code 0 = .ok (.iload_n 1, 1) := by decide +kernel
theorem d_O_line_1 : decode prog_1_method_20_code 1 = .ok (.sipush (-400), 3) := by decide +kernel
theorem d_O_line_4 : decode prog_1_method_20_code 4 = .ok (.sipush 400, 3) := by decide +kernel
theorem d_O_line_7 : decode prog_1_method_20_code 7 = .ok (.invokestatic 78, 3) := by decide +kernel
theorem d_O_line_10 : decode prog_1_method_20_code 10 = .ok (.ifCond .ne 7, 3) := by decide +kernel
theorem d_O_line_13 : decode prog_1_method_20_code 13 = .ok (.sipush (-1000), 3) := by decide +kernel
theorem d_O_line_16 : decode prog_1_method_20_code 16 = .ok (.ireturn, 1) := by decide +kernel
theorem d_O_line_17 : decode prog_1_method_20_code 17 = .ok (.aload_n 0, 1) := by decide +kernel
theorem d_O_line_18 : decode prog_1_method_20_code 18 = .ok (.getfield 42, 3) := by decide +kernel
theorem d_O_line_21 : decode prog_1_method_20_code 21 = .ok (.getfield 221, 3) := by decide +kernel
theorem d_O_line_24 : decode prog_1_method_20_code 24 = .ok (.istore_n 2, 1) := by decide +kernel
theorem d_O_line_25 : decode prog_1_method_20_code 25 = .ok (.aload_n 0, 1) := by decide +kernel
theorem d_O_line_26 : decode prog_1_method_20_code 26 = .ok (.getfield 42, 3) := by decide +kernel
theorem d_O_line_29 : decode prog_1_method_20_code 29 = .ok (.iload_n 1, 1) := by decide +kernel
theorem d_O_line_30 : decode prog_1_method_20_code 30 = .ok (.putfield 221, 3) := by decide +kernel
theorem d_O_line_33 : decode prog_1_method_20_code 33 = .ok (.iload_n 2, 1) := by decide +kernel
theorem d_O_line_34 : decode prog_1_method_20_code 34 = .ok (.ireturn, 1) := by decide +kernel
theorem d_O_links_0 : decode prog_1_method_21_code 0 = .ok (.aload_n 0, 1) := by decide +kernel
theorem d_O_links_1 : decode prog_1_method_21_code 1 = .ok (.getfield 19, 3) := by decide +kernel
theorem d_O_links_4 : decode prog_1_method_21_code 4 = .ok (.invokevirtual 224, 3) := by decide +kernel
theorem d_Pairs_countLinks_0 : decode prog_7_method_8_code 0 = .ok (.iconst 0, 1) := by decide +kernel
theorem d_Pairs_countLinks_1 : decode prog_7_method_8_code 1 = .ok (.istore_n 1, 1) := by decide +kernel
theorem d_Pairs_countLinks_2 : decode prog_7_method_8_code 2 = .ok (.iconst 0, 1) := by decide +kernel
theorem d_Pairs_countLinks_3 : decode prog_7_method_8_code 3 = .ok (.istore_n 2, 1) := by decide +kernel
theorem d_Pairs_countLinks_4 : decode prog_7_method_8_code 4 = .ok (.iload_n 2, 1) := by decide +kernel
theorem d_Pairs_countLinks_5 : decode prog_7_method_8_code 5 = .ok (.aload_n 0, 1) := by decide +kernel
theorem d_Pairs_countLinks_6 : decode prog_7_method_8_code 6 = .ok (.getfield 12, 3) := by decide +kernel
theorem d_Pairs_countLinks_9 : decode prog_7_method_8_code 9 = .ok (.getfield 86, 3) := by decide +kernel
theorem d_Pairs_countLinks_12 : decode prog_7_method_8_code 12 = .ok (.if_icmp .ge 42, 3) := by decide +kernel
theorem d_Pairs_countLinks_54 : decode prog_7_method_8_code 54 = .ok (.iload_n 1, 1) := by decide +kernel
theorem d_Pairs_countLinks_55 : decode prog_7_method_8_code 55 = .ok (.ireturn, 1) := by decide +kernel
theorem d_Pairs_countLinks_15 : decode prog_7_method_8_code 15 = .ok (.iload_n 2, 1) := by decide +kernel
theorem d_Pairs_countLinks_16 : decode prog_7_method_8_code 16 = .ok (.iconst 1, 1) := by decide +kernel
theorem d_Pairs_countLinks_17 : decode prog_7_method_8_code 17 = .ok (.iadd, 1) := by decide +kernel
theorem d_Pairs_countLinks_18 : decode prog_7_method_8_code 18 = .ok (.istore_n 3, 1) := by decide +kernel
theorem d_Pairs_countLinks_19 : decode prog_7_method_8_code 19 = .ok (.iload_n 3, 1) := by decide +kernel
theorem d_Pairs_countLinks_20 : decode prog_7_method_8_code 20 = .ok (.aload_n 0, 1) := by decide +kernel
theorem d_Pairs_countLinks_21 : decode prog_7_method_8_code 21 = .ok (.getfield 12, 3) := by decide +kernel
theorem d_Pairs_countLinks_24 : decode prog_7_method_8_code 24 = .ok (.getfield 86, 3) := by decide +kernel
theorem d_Pairs_countLinks_27 : decode prog_7_method_8_code 27 = .ok (.if_icmp .ge 21, 3) := by decide +kernel
theorem d_Pairs_countLinks_48 : decode prog_7_method_8_code 48 = .ok (.iinc 2 1, 3) := by decide +kernel
theorem d_Pairs_countLinks_51 : decode prog_7_method_8_code 51 = .ok (.goto (-47), 3) := by decide +kernel
theorem d_Pairs_countLinks_30 : decode prog_7_method_8_code 30 = .ok (.aload_n 0, 1) := by decide +kernel
theorem d_Pairs_countLinks_31 : decode prog_7_method_8_code 31 = .ok (.iload_n 2, 1) := by decide +kernel
theorem d_Pairs_countLinks_32 : decode prog_7_method_8_code 32 = .ok (.iload_n 3, 1) := by decide +kernel
theorem d_Pairs_countLinks_33 : decode prog_7_method_8_code 33 = .ok (.invokevirtual 89, 3) := by decide +kernel
theorem d_Pairs_areLinked_0 : decode prog_7_method_7_code 0 = .ok (.aload_n 0, 1) := by decide +kernel
theorem d_Pairs_areLinked_1 : decode prog_7_method_7_code 1 = .ok (.getfield 12, 3) := by decide +kernel
theorem d_Pairs_areLinked_4 : decode prog_7_method_7_code 4 = .ok (.iload_n 1, 1) := by decide +kernel
theorem d_Pairs_areLinked_5 : decode prog_7_method_7_code 5 = .ok (.iload_n 2, 1) := by decide +kernel
theorem d_Pairs_areLinked_6 : decode prog_7_method_7_code 6 = .ok (.invokevirtual 76, 3) := by decide +kernel
theorem d_Rows_areKnown_0 : decode prog_8_method_11_code 0 = .ok (.aload_n 0, 1) := by decide +kernel
theorem d_Rows_areKnown_1 : decode prog_8_method_11_code 1 = .ok (.iload_n 1, 1) := by decide +kernel
theorem d_Rows_areKnown_2 : decode prog_8_method_11_code 2 = .ok (.invokevirtual 43, 3) := by decide +kernel
theorem d_Rows_areKnown_5 : decode prog_8_method_11_code 5 = .ok (.ifCond .eq 15, 3) := by decide +kernel
theorem d_Rows_areKnown_20 : decode prog_8_method_11_code 20 = .ok (.iconst 0, 1) := by decide +kernel
theorem d_Rows_areKnown_21 : decode prog_8_method_11_code 21 = .ok (.ireturn, 1) := by decide +kernel
theorem d_Rows_areKnown_8 : decode prog_8_method_11_code 8 = .ok (.aload_n 0, 1) := by decide +kernel
theorem d_Rows_areKnown_9 : decode prog_8_method_11_code 9 = .ok (.iload_n 2, 1) := by decide +kernel
theorem d_Rows_areKnown_10 : decode prog_8_method_11_code 10 = .ok (.invokevirtual 43, 3) := by decide +kernel
theorem d_Rows_areKnown_13 : decode prog_8_method_11_code 13 = .ok (.ifCond .eq 7, 3) := by decide +kernel
theorem d_Rows_areKnown_16 : decode prog_8_method_11_code 16 = .ok (.iconst 1, 1) := by decide +kernel
theorem d_Rows_areKnown_17 : decode prog_8_method_11_code 17 = .ok (.goto 4, 3) := by decide +kernel
theorem d_Pairs_areLinked_9 : decode prog_7_method_7_code 9 = .ok (.ifCond .eq 23, 3) := by decide +kernel
theorem d_Pairs_areLinked_32 : decode prog_7_method_7_code 32 = .ok (.iconst 0, 1) := by decide +kernel
theorem d_Pairs_areLinked_33 : decode prog_7_method_7_code 33 = .ok (.ireturn, 1) := by decide +kernel
theorem d_Pairs_areLinked_12 : decode prog_7_method_7_code 12 = .ok (.aload_n 0, 1) := by decide +kernel
theorem d_Pairs_areLinked_13 : decode prog_7_method_7_code 13 = .ok (.iload_n 1, 1) := by decide +kernel
theorem d_Pairs_areLinked_14 : decode prog_7_method_7_code 14 = .ok (.iload_n 2, 1) := by decide +kernel
theorem d_Pairs_areLinked_15 : decode prog_7_method_7_code 15 = .ok (.invokevirtual 79, 3) := by decide +kernel
theorem d_Pairs_areLinked_18 : decode prog_7_method_7_code 18 = .ok (.aload_n 0, 1) := by decide +kernel
theorem d_Pairs_areLinked_19 : decode prog_7_method_7_code 19 = .ok (.getfield 35, 3) := by decide +kernel
theorem d_Pairs_areLinked_22 : decode prog_7_method_7_code 22 = .ok (.getfield 82, 3) := by decide +kernel
theorem d_Pairs_areLinked_25 : decode prog_7_method_7_code 25 = .ok (.if_icmp .lt 7, 3) := by decide +kernel
theorem d_Pairs_areLinked_28 : decode prog_7_method_7_code 28 = .ok (.iconst 1, 1) := by decide +kernel
theorem d_Pairs_areLinked_29 : decode prog_7_method_7_code 29 = .ok (.goto 4, 3) := by decide +kernel
theorem d_Pairs_countLinks_36 : decode prog_7_method_8_code 36 = .ok (.ifCond .eq 6, 3) := by decide +kernel
theorem d_Pairs_countLinks_39 : decode prog_7_method_8_code 39 = .ok (.iinc 1 1, 3) := by decide +kernel
theorem d_Pairs_countLinks_42 : decode prog_7_method_8_code 42 = .ok (.iinc 3 1, 3) := by decide +kernel
theorem d_Pairs_countLinks_45 : decode prog_7_method_8_code 45 = .ok (.goto (-26), 3) := by decide +kernel
theorem d_O_links_7 : decode prog_1_method_21_code 7 = .ok (.ireturn, 1) := by decide +kernel
theorem d_O_laid_0 : decode prog_1_method_22_code 0 = .ok (.iload_n 1, 1) := by decide +kernel
theorem d_O_laid_1 : decode prog_1_method_22_code 1 = .ok (.iconst 3, 1) := by decide +kernel
theorem d_O_laid_2 : decode prog_1_method_22_code 2 = .ok (.invokestatic 88, 3) := by decide +kernel
theorem d_O_laid_5 : decode prog_1_method_22_code 5 = .ok (.ifCond .eq 24, 3) := by decide +kernel
theorem d_O_laid_29 : decode prog_1_method_22_code 29 = .ok (.bipush (-2), 2) := by decide +kernel
theorem d_O_laid_31 : decode prog_1_method_22_code 31 = .ok (.ireturn, 1) := by decide +kernel
theorem d_O_laid_8 : decode prog_1_method_22_code 8 = .ok (.iload_n 2, 1) := by decide +kernel
theorem d_O_laid_9 : decode prog_1_method_22_code 9 = .ok (.iconst 3, 1) := by decide +kernel
theorem d_O_laid_10 : decode prog_1_method_22_code 10 = .ok (.invokestatic 88, 3) := by decide +kernel
theorem d_O_laid_13 : decode prog_1_method_22_code 13 = .ok (.ifCond .eq 16, 3) := by decide +kernel
theorem d_O_laid_16 : decode prog_1_method_22_code 16 = .ok (.iload_n 1, 1) := by decide +kernel
theorem d_O_laid_17 : decode prog_1_method_22_code 17 = .ok (.iload_n 2, 1) := by decide +kernel
theorem d_O_laid_18 : decode prog_1_method_22_code 18 = .ok (.if_icmp .eq 11, 3) := by decide +kernel
theorem d_O_laid_21 : decode prog_1_method_22_code 21 = .ok (.iload_n 3, 1) := by decide +kernel
theorem d_O_laid_22 : decode prog_1_method_22_code 22 = .ok (.iconst 2, 1) := by decide +kernel
theorem d_O_laid_23 : decode prog_1_method_22_code 23 = .ok (.invokestatic 88, 3) := by decide +kernel
theorem d_O_laid_26 : decode prog_1_method_22_code 26 = .ok (.ifCond .ne 6, 3) := by decide +kernel
theorem d_O_laid_32 : decode prog_1_method_22_code 32 = .ok (.aload_n 0, 1) := by decide +kernel
theorem d_O_laid_33 : decode prog_1_method_22_code 33 = .ok (.getfield 46, 3) := by decide +kernel
theorem d_O_laid_36 : decode prog_1_method_22_code 36 = .ok (.aload_n 0, 1) := by decide +kernel
theorem d_O_laid_37 : decode prog_1_method_22_code 37 = .ok (.getfield 19, 3) := by decide +kernel
theorem d_O_laid_40 : decode prog_1_method_22_code 40 = .ok (.iload_n 1, 1) := by decide +kernel
theorem d_O_laid_41 : decode prog_1_method_22_code 41 = .ok (.iload_n 2, 1) := by decide +kernel
theorem d_O_laid_42 : decode prog_1_method_22_code 42 = .ok (.invokevirtual 228, 3) := by decide +kernel
theorem d_Laying_lay_0 : decode prog_6_method_2_code 0 = .ok (.aload_n 0, 1) := by decide +kernel
theorem d_Laying_lay_1 : decode prog_6_method_2_code 1 = .ok (.aload_n 1, 1) := by decide +kernel
theorem d_Laying_lay_2 : decode prog_6_method_2_code 2 = .ok (.getfield 25, 3) := by decide +kernel
theorem d_Laying_lay_5 : decode prog_6_method_2_code 5 = .ok (.iload_n 2, 1) := by decide +kernel
theorem d_Laying_lay_6 : decode prog_6_method_2_code 6 = .ok (.aload_n 0, 1) := by decide +kernel
theorem d_Laying_lay_7 : decode prog_6_method_2_code 7 = .ok (.getfield 11, 3) := by decide +kernel
theorem d_Laying_lay_10 : decode prog_6_method_2_code 10 = .ok (.invokestatic 31, 3) := by decide +kernel
theorem d_Laying_list_0 : decode prog_6_method_3_code 0 = .ok (.iconst 0, 1) := by decide +kernel
theorem d_Laying_list_1 : decode prog_6_method_3_code 1 = .ok (.istore_n 3, 1) := by decide +kernel
theorem d_Laying_list_2 : decode prog_6_method_3_code 2 = .ok (.iconst 0, 1) := by decide +kernel
theorem d_Laying_list_3 : decode prog_6_method_3_code 3 = .ok (.istore 4, 2) := by decide +kernel
theorem d_Laying_list_5 : decode prog_6_method_3_code 5 = .ok (.iload 4, 2) := by decide +kernel
theorem d_Laying_list_7 : decode prog_6_method_3_code 7 = .ok (.aload_n 0, 1) := by decide +kernel
theorem d_Laying_list_8 : decode prog_6_method_3_code 8 = .ok (.getfield 63, 3) := by decide +kernel
theorem d_Laying_list_11 : decode prog_6_method_3_code 11 = .ok (.if_icmp .ge 43, 3) := by decide +kernel
theorem d_Laying_list_54 : decode prog_6_method_3_code 54 = .ok (.iload_n 3, 1) := by decide +kernel
theorem d_Laying_list_55 : decode prog_6_method_3_code 55 = .ok (.ireturn, 1) := by decide +kernel
theorem d_Laying_list_14 : decode prog_6_method_3_code 14 = .ok (.aload_n 0, 1) := by decide +kernel
theorem d_Laying_list_15 : decode prog_6_method_3_code 15 = .ok (.iload 4, 2) := by decide +kernel
theorem d_Laying_list_17 : decode prog_6_method_3_code 17 = .ok (.invokevirtual 68, 3) := by decide +kernel
theorem d_Laying_list_20 : decode prog_6_method_3_code 20 = .ok (.ifCond .eq 28, 3) := by decide +kernel
theorem d_Laying_list_23 : decode prog_6_method_3_code 23 = .ok (.aload_n 0, 1) := by decide +kernel
theorem d_Laying_list_24 : decode prog_6_method_3_code 24 = .ok (.iload 4, 2) := by decide +kernel
theorem d_Laying_list_26 : decode prog_6_method_3_code 26 = .ok (.iconst 0, 1) := by decide +kernel
theorem d_Laying_list_27 : decode prog_6_method_3_code 27 = .ok (.invokevirtual 72, 3) := by decide +kernel
theorem d_Laying_list_30 : decode prog_6_method_3_code 30 = .ok (.iload_n 1, 1) := by decide +kernel
theorem d_Laying_list_31 : decode prog_6_method_3_code 31 = .ok (.if_icmp .ne 17, 3) := by decide +kernel
theorem d_Laying_list_34 : decode prog_6_method_3_code 34 = .ok (.iload_n 3, 1) := by decide +kernel
theorem d_Laying_list_35 : decode prog_6_method_3_code 35 = .ok (.aload_n 2, 1) := by decide +kernel
theorem d_Laying_list_36 : decode prog_6_method_3_code 36 = .ok (.arraylength, 1) := by decide +kernel
theorem d_Laying_list_37 : decode prog_6_method_3_code 37 = .ok (.if_icmp .ge 8, 3) := by decide +kernel
theorem d_Laying_list_40 : decode prog_6_method_3_code 40 = .ok (.aload_n 2, 1) := by decide +kernel
theorem d_Laying_list_41 : decode prog_6_method_3_code 41 = .ok (.iload_n 3, 1) := by decide +kernel
theorem d_Laying_list_42 : decode prog_6_method_3_code 42 = .ok (.iload 4, 2) := by decide +kernel
theorem d_Laying_list_44 : decode prog_6_method_3_code 44 = .ok (.iastore, 1) := by decide +kernel
theorem d_Laying_list_48 : decode prog_6_method_3_code 48 = .ok (.iinc 4 1, 3) := by decide +kernel
theorem d_Laying_list_51 : decode prog_6_method_3_code 51 = .ok (.goto (-46), 3) := by decide +kernel
theorem d_Laying_list_45 : decode prog_6_method_3_code 45 = .ok (.iinc 3 1, 3) := by decide +kernel
theorem d_Laying_lay_13 : decode prog_6_method_2_code 13 = .ok (.putfield 35, 3) := by decide +kernel
theorem d_Laying_lay_16 : decode prog_6_method_2_code 16 = .ok (.aload_n 0, 1) := by decide +kernel
theorem d_Laying_lay_17 : decode prog_6_method_2_code 17 = .ok (.aload_n 1, 1) := by decide +kernel
theorem d_Laying_lay_18 : decode prog_6_method_2_code 18 = .ok (.getfield 25, 3) := by decide +kernel
theorem d_Laying_lay_21 : decode prog_6_method_2_code 21 = .ok (.iload_n 3, 1) := by decide +kernel
theorem d_Laying_lay_22 : decode prog_6_method_2_code 22 = .ok (.aload_n 0, 1) := by decide +kernel
theorem d_Laying_lay_23 : decode prog_6_method_2_code 23 = .ok (.getfield 15, 3) := by decide +kernel
theorem d_Laying_lay_26 : decode prog_6_method_2_code 26 = .ok (.invokestatic 31, 3) := by decide +kernel
theorem d_Laying_lay_29 : decode prog_6_method_2_code 29 = .ok (.putfield 39, 3) := by decide +kernel
theorem d_Laying_lay_32 : decode prog_6_method_2_code 32 = .ok (.aload_n 0, 1) := by decide +kernel
theorem d_Laying_lay_33 : decode prog_6_method_2_code 33 = .ok (.getfield 35, 3) := by decide +kernel
theorem d_Laying_lay_36 : decode prog_6_method_2_code 36 = .ok (.bipush 10, 2) := by decide +kernel
theorem d_Laying_lay_38 : decode prog_6_method_2_code 38 = .ok (.if_icmp .gt 12, 3) := by decide +kernel
theorem d_Laying_lay_50 : decode prog_6_method_2_code 50 = .ok (.iconst 0, 1) := by decide +kernel
theorem d_Laying_lay_51 : decode prog_6_method_2_code 51 = .ok (.ireturn, 1) := by decide +kernel
theorem d_Laying_lay_41 : decode prog_6_method_2_code 41 = .ok (.aload_n 0, 1) := by decide +kernel
theorem d_Laying_lay_42 : decode prog_6_method_2_code 42 = .ok (.getfield 39, 3) := by decide +kernel
theorem d_Laying_lay_45 : decode prog_6_method_2_code 45 = .ok (.bipush 10, 2) := by decide +kernel
theorem d_Laying_lay_47 : decode prog_6_method_2_code 47 = .ok (.if_icmp .le 5, 3) := by decide +kernel
theorem d_Laying_lay_52 : decode prog_6_method_2_code 52 = .ok (.aload_n 0, 1) := by decide +kernel
theorem d_Laying_lay_53 : decode prog_6_method_2_code 53 = .ok (.getfield 22, 3) := by decide +kernel
theorem d_Laying_lay_56 : decode prog_6_method_2_code 56 = .ok (.lconst 0, 1) := by decide +kernel
theorem d_Laying_lay_57 : decode prog_6_method_2_code 57 = .ok (.invokestatic 42, 3) := by decide +kernel
theorem d_Arrays_fill_JJV_0 : decode prog_18_method_101_code 0 = .ok (.iconst 0, 1) := by decide +kernel
theorem d_Arrays_fill_JJV_1 : decode prog_18_method_101_code 1 = .ok (.istore_n 3, 1) := by decide +kernel
theorem d_Arrays_fill_JJV_2 : decode prog_18_method_101_code 2 = .ok (.aload_n 0, 1) := by decide +kernel
theorem d_Arrays_fill_JJV_3 : decode prog_18_method_101_code 3 = .ok (.arraylength, 1) := by decide +kernel
theorem d_Arrays_fill_JJV_4 : decode prog_18_method_101_code 4 = .ok (.istore 4, 2) := by decide +kernel
theorem d_Arrays_fill_JJV_6 : decode prog_18_method_101_code 6 = .ok (.iload_n 3, 1) := by decide +kernel
theorem d_Arrays_fill_JJV_7 : decode prog_18_method_101_code 7 = .ok (.iload 4, 2) := by decide +kernel
theorem d_Arrays_fill_JJV_9 : decode prog_18_method_101_code 9 = .ok (.if_icmp .ge 13, 3) := by decide +kernel
theorem d_Arrays_fill_JJV_22 : decode prog_18_method_101_code 22 = .ok (.return_, 1) := by decide +kernel
theorem d_Arrays_fill_JJV_12 : decode prog_18_method_101_code 12 = .ok (.aload_n 0, 1) := by decide +kernel
theorem d_Arrays_fill_JJV_13 : decode prog_18_method_101_code 13 = .ok (.iload_n 3, 1) := by decide +kernel
theorem d_Arrays_fill_JJV_14 : decode prog_18_method_101_code 14 = .ok (.lload_n 1, 1) := by decide +kernel
theorem d_Arrays_fill_JJV_15 : decode prog_18_method_101_code 15 = .ok (.lastore, 1) := by decide +kernel
theorem d_Arrays_fill_JJV_16 : decode prog_18_method_101_code 16 = .ok (.iinc 3 1, 3) := by decide +kernel
theorem d_Arrays_fill_JJV_19 : decode prog_18_method_101_code 19 = .ok (.goto (-13), 3) := by decide +kernel
theorem d_Laying_lay_60 : decode prog_6_method_2_code 60 = .ok (.ldc2_w 48, 3) := by decide +kernel
theorem d_Laying_lay_63 : decode prog_6_method_2_code 63 = .ok (.lstore 4, 2) := by decide +kernel
theorem d_Laying_lay_65 : decode prog_6_method_2_code 65 = .ok (.iconst 0, 1) := by decide +kernel
theorem d_Laying_lay_66 : decode prog_6_method_2_code 66 = .ok (.istore 6, 2) := by decide +kernel
theorem d_Laying_lay_68 : decode prog_6_method_2_code 68 = .ok (.iload 6, 2) := by decide +kernel
theorem d_Laying_lay_70 : decode prog_6_method_2_code 70 = .ok (.aload_n 0, 1) := by decide +kernel
theorem d_Laying_lay_71 : decode prog_6_method_2_code 71 = .ok (.getfield 35, 3) := by decide +kernel
theorem d_Laying_lay_74 : decode prog_6_method_2_code 74 = .ok (.if_icmp .ge 38, 3) := by decide +kernel
theorem d_Laying_lay_112 : decode prog_6_method_2_code 112 = .ok (.aload_n 0, 1) := by decide +kernel
theorem d_Laying_lay_113 : decode prog_6_method_2_code 113 = .ok (.aload_n 0, 1) := by decide +kernel
theorem d_Laying_lay_114 : decode prog_6_method_2_code 114 = .ok (.getfield 22, 3) := by decide +kernel
theorem d_Laying_lay_117 : decode prog_6_method_2_code 117 = .ok (.iconst 1, 1) := by decide +kernel
theorem d_Laying_lay_118 : decode prog_6_method_2_code 118 = .ok (.aload_n 0, 1) := by decide +kernel
theorem d_Laying_lay_119 : decode prog_6_method_2_code 119 = .ok (.getfield 39, 3) := by decide +kernel
theorem d_Laying_lay_122 : decode prog_6_method_2_code 122 = .ok (.ishl, 1) := by decide +kernel
theorem d_Laying_lay_123 : decode prog_6_method_2_code 123 = .ok (.iconst 1, 1) := by decide +kernel
theorem d_Laying_lay_124 : decode prog_6_method_2_code 124 = .ok (.isub, 1) := by decide +kernel
theorem d_Laying_lay_125 : decode prog_6_method_2_code 125 = .ok (.laload, 1) := by decide +kernel
theorem d_Laying_lay_126 : decode prog_6_method_2_code 126 = .ok (.putfield 59, 3) := by decide +kernel
theorem d_Laying_lay_129 : decode prog_6_method_2_code 129 = .ok (.iconst 1, 1) := by decide +kernel
theorem d_Laying_lay_130 : decode prog_6_method_2_code 130 = .ok (.ireturn, 1) := by decide +kernel
theorem d_Laying_lay_77 : decode prog_6_method_2_code 77 = .ok (.aload_n 0, 1) := by decide +kernel
theorem d_Laying_lay_78 : decode prog_6_method_2_code 78 = .ok (.aload_n 1, 1) := by decide +kernel
theorem d_Laying_lay_79 : decode prog_6_method_2_code 79 = .ok (.aload_n 0, 1) := by decide +kernel
theorem d_Laying_lay_80 : decode prog_6_method_2_code 80 = .ok (.getfield 11, 3) := by decide +kernel
theorem d_Laying_lay_83 : decode prog_6_method_2_code 83 = .ok (.iload 6, 2) := by decide +kernel
theorem d_Laying_lay_85 : decode prog_6_method_2_code 85 = .ok (.iaload, 1) := by decide +kernel
theorem d_Laying_lay_86 : decode prog_6_method_2_code 86 = .ok (.lload 4, 2) := by decide +kernel
theorem d_Laying_lay_88 : decode prog_6_method_2_code 88 = .ok (.invokevirtual 50, 3) := by decide +kernel
theorem d_Laying_weigh_0 : decode prog_6_method_4_code 0 = .ok (.iconst 0, 1) := by decide +kernel
theorem d_Laying_weigh_1 : decode prog_6_method_4_code 1 = .ok (.istore 5, 2) := by decide +kernel
theorem d_Laying_weigh_3 : decode prog_6_method_4_code 3 = .ok (.iconst 0, 1) := by decide +kernel
theorem d_Laying_weigh_4 : decode prog_6_method_4_code 4 = .ok (.istore 6, 2) := by decide +kernel
theorem d_Laying_weigh_6 : decode prog_6_method_4_code 6 = .ok (.iload 6, 2) := by decide +kernel
theorem d_Laying_weigh_8 : decode prog_6_method_4_code 8 = .ok (.aload_n 0, 1) := by decide +kernel
theorem d_Laying_weigh_9 : decode prog_6_method_4_code 9 = .ok (.getfield 39, 3) := by decide +kernel
theorem d_Laying_weigh_12 : decode prog_6_method_4_code 12 = .ok (.if_icmp .ge 88, 3) := by decide +kernel
theorem d_Laying_weigh_100 : decode prog_6_method_4_code 100 = .ok (.iload 5, 2) := by decide +kernel
theorem d_Laying_weigh_102 : decode prog_6_method_4_code 102 = .ok (.ireturn, 1) := by decide +kernel
theorem d_Laying_weigh_15 : decode prog_6_method_4_code 15 = .ok (.aload_n 1, 1) := by decide +kernel
theorem d_Laying_weigh_16 : decode prog_6_method_4_code 16 = .ok (.iload_n 2, 1) := by decide +kernel
theorem d_Laying_weigh_17 : decode prog_6_method_4_code 17 = .ok (.aload_n 0, 1) := by decide +kernel
theorem d_Laying_weigh_18 : decode prog_6_method_4_code 18 = .ok (.getfield 15, 3) := by decide +kernel
theorem d_Laying_weigh_21 : decode prog_6_method_4_code 21 = .ok (.iload 6, 2) := by decide +kernel
theorem d_Laying_weigh_23 : decode prog_6_method_4_code 23 = .ok (.iaload, 1) := by decide +kernel
theorem d_Laying_weigh_24 : decode prog_6_method_4_code 24 = .ok (.invokevirtual 76, 3) := by decide +kernel
theorem d_Laying_weigh_27 : decode prog_6_method_4_code 27 = .ok (.aload_n 1, 1) := by decide +kernel
theorem d_Laying_weigh_28 : decode prog_6_method_4_code 28 = .ok (.getfield 79, 3) := by decide +kernel
theorem d_Laying_weigh_31 : decode prog_6_method_4_code 31 = .ok (.getfield 83, 3) := by decide +kernel
theorem d_Laying_weigh_34 : decode prog_6_method_4_code 34 = .ok (.isub, 1) := by decide +kernel
theorem d_Laying_weigh_35 : decode prog_6_method_4_code 35 = .ok (.iconst 1, 1) := by decide +kernel
theorem d_Laying_weigh_36 : decode prog_6_method_4_code 36 = .ok (.iadd, 1) := by decide +kernel
theorem d_Laying_weigh_37 : decode prog_6_method_4_code 37 = .ok (.i2l, 1) := by decide +kernel
theorem d_Laying_weigh_38 : decode prog_6_method_4_code 38 = .ok (.lstore 7, 2) := by decide +kernel
theorem d_Laying_weigh_40 : decode prog_6_method_4_code 40 = .ok (.lload 7, 2) := by decide +kernel
theorem d_Laying_weigh_42 : decode prog_6_method_4_code 42 = .ok (.lconst 1, 1) := by decide +kernel
theorem d_Laying_weigh_43 : decode prog_6_method_4_code 43 = .ok (.lcmp, 1) := by decide +kernel
theorem d_Laying_weigh_44 : decode prog_6_method_4_code 44 = .ok (.ifCond .lt 7, 3) := by decide +kernel
theorem d_Laying_weigh_51 : decode prog_6_method_4_code 51 = .ok (.iconst 0, 1) := by decide +kernel
theorem d_Laying_weigh_47 : decode prog_6_method_4_code 47 = .ok (.iconst 1, 1) := by decide +kernel
theorem d_Laying_weigh_48 : decode prog_6_method_4_code 48 = .ok (.goto 4, 3) := by decide +kernel
theorem d_Laying_weigh_52 : decode prog_6_method_4_code 52 = .ok (.istore 9, 2) := by decide +kernel
theorem d_Laying_weigh_54 : decode prog_6_method_4_code 54 = .ok (.aload_n 0, 1) := by decide +kernel
theorem d_Laying_weigh_55 : decode prog_6_method_4_code 55 = .ok (.getfield 18, 3) := by decide +kernel
theorem d_Laying_weigh_58 : decode prog_6_method_4_code 58 = .ok (.iload 6, 2) := by decide +kernel
theorem d_Laying_weigh_60 : decode prog_6_method_4_code 60 = .ok (.iload 9, 2) := by decide +kernel
theorem d_Laying_weigh_62 : decode prog_6_method_4_code 62 = .ok (.ifCond .eq 23, 3) := by decide +kernel
theorem d_Laying_weigh_85 : decode prog_6_method_4_code 85 = .ok (.lconst 0, 1) := by decide +kernel
theorem d_Laying_weigh_65 : decode prog_6_method_4_code 65 = .ok (.lload 7, 2) := by decide +kernel
theorem d_Laying_weigh_67 : decode prog_6_method_4_code 67 = .ok (.ldc2_w 88, 3) := by decide +kernel
theorem d_Laying_weigh_70 : decode prog_6_method_4_code 70 = .ok (.lmul, 1) := by decide +kernel
theorem d_Laying_weigh_71 : decode prog_6_method_4_code 71 = .ok (.aload_n 0, 1) := by decide +kernel
theorem d_Laying_weigh_72 : decode prog_6_method_4_code 72 = .ok (.getfield 39, 3) := by decide +kernel
theorem d_Laying_weigh_75 : decode prog_6_method_4_code 75 = .ok (.iload 6, 2) := by decide +kernel
theorem d_Laying_weigh_77 : decode prog_6_method_4_code 77 = .ok (.isub, 1) := by decide +kernel
theorem d_Laying_weigh_78 : decode prog_6_method_4_code 78 = .ok (.i2l, 1) := by decide +kernel
theorem d_Laying_weigh_79 : decode prog_6_method_4_code 79 = .ok (.lload_n 3, 1) := by decide +kernel
theorem d_Laying_weigh_80 : decode prog_6_method_4_code 80 = .ok (.lmul, 1) := by decide +kernel
theorem d_Laying_weigh_81 : decode prog_6_method_4_code 81 = .ok (.ladd, 1) := by decide +kernel
theorem d_Laying_weigh_82 : decode prog_6_method_4_code 82 = .ok (.goto 4, 3) := by decide +kernel
theorem d_Laying_weigh_86 : decode prog_6_method_4_code 86 = .ok (.lastore, 1) := by decide +kernel
theorem d_Laying_weigh_87 : decode prog_6_method_4_code 87 = .ok (.iload 5, 2) := by decide +kernel
theorem d_Laying_weigh_89 : decode prog_6_method_4_code 89 = .ok (.iload 9, 2) := by decide +kernel
theorem d_Laying_weigh_91 : decode prog_6_method_4_code 91 = .ok (.ior, 1) := by decide +kernel
theorem d_Laying_weigh_92 : decode prog_6_method_4_code 92 = .ok (.istore 5, 2) := by decide +kernel
theorem d_Laying_weigh_94 : decode prog_6_method_4_code 94 = .ok (.iinc 6 1, 3) := by decide +kernel
theorem d_Laying_weigh_97 : decode prog_6_method_4_code 97 = .ok (.goto (-91), 3) := by decide +kernel
theorem d_Laying_lay_91 : decode prog_6_method_2_code 91 = .ok (.ifCond .eq 7, 3) := by decide +kernel
theorem d_Laying_lay_94 : decode prog_6_method_2_code 94 = .ok (.aload_n 0, 1) := by decide +kernel
theorem d_Laying_lay_95 : decode prog_6_method_2_code 95 = .ok (.invokevirtual 54, 3) := by decide +kernel
theorem d_Laying_improve_0 : decode prog_6_method_5_code 0 = .ok (.iconst 1, 1) := by decide +kernel
theorem d_Laying_improve_1 : decode prog_6_method_5_code 1 = .ok (.aload_n 0, 1) := by decide +kernel
theorem d_Laying_improve_2 : decode prog_6_method_5_code 2 = .ok (.getfield 39, 3) := by decide +kernel
theorem d_Laying_improve_5 : decode prog_6_method_5_code 5 = .ok (.ishl, 1) := by decide +kernel
theorem d_Laying_improve_6 : decode prog_6_method_5_code 6 = .ok (.iconst 1, 1) := by decide +kernel
theorem d_Laying_improve_7 : decode prog_6_method_5_code 7 = .ok (.isub, 1) := by decide +kernel
theorem d_Laying_improve_8 : decode prog_6_method_5_code 8 = .ok (.istore_n 1, 1) := by decide +kernel
theorem d_Laying_improve_9 : decode prog_6_method_5_code 9 = .ok (.iload_n 1, 1) := by decide +kernel
theorem d_Laying_improve_10 : decode prog_6_method_5_code 10 = .ok (.ifCond .le 76, 3) := by decide +kernel
theorem d_Laying_improve_86 : decode prog_6_method_5_code 86 = .ok (.return_, 1) := by decide +kernel
theorem d_Laying_improve_13 : decode prog_6_method_5_code 13 = .ok (.iconst 0, 1) := by decide +kernel
theorem d_Laying_improve_14 : decode prog_6_method_5_code 14 = .ok (.istore_n 2, 1) := by decide +kernel
theorem d_Laying_improve_15 : decode prog_6_method_5_code 15 = .ok (.iload_n 2, 1) := by decide +kernel
theorem d_Laying_improve_16 : decode prog_6_method_5_code 16 = .ok (.aload_n 0, 1) := by decide +kernel
theorem d_Laying_improve_17 : decode prog_6_method_5_code 17 = .ok (.getfield 39, 3) := by decide +kernel
theorem d_Laying_improve_20 : decode prog_6_method_5_code 20 = .ok (.if_icmp .ge 60, 3) := by decide +kernel
theorem d_Laying_improve_80 : decode prog_6_method_5_code 80 = .ok (.iinc 1 (-1), 3) := by decide +kernel
theorem d_Laying_improve_83 : decode prog_6_method_5_code 83 = .ok (.goto (-74), 3) := by decide +kernel
theorem d_Laying_improve_23 : decode prog_6_method_5_code 23 = .ok (.iconst 1, 1) := by decide +kernel
theorem d_Laying_improve_24 : decode prog_6_method_5_code 24 = .ok (.iload_n 2, 1) := by decide +kernel
theorem d_Laying_improve_25 : decode prog_6_method_5_code 25 = .ok (.ishl, 1) := by decide +kernel
theorem d_Laying_improve_26 : decode prog_6_method_5_code 26 = .ok (.istore_n 3, 1) := by decide +kernel
theorem d_Laying_improve_27 : decode prog_6_method_5_code 27 = .ok (.iload_n 1, 1) := by decide +kernel
theorem d_Laying_improve_28 : decode prog_6_method_5_code 28 = .ok (.iload_n 3, 1) := by decide +kernel
theorem d_Laying_improve_29 : decode prog_6_method_5_code 29 = .ok (.iand, 1) := by decide +kernel
theorem d_Laying_improve_30 : decode prog_6_method_5_code 30 = .ok (.ifCond .eq 44, 3) := by decide +kernel
theorem d_Laying_improve_33 : decode prog_6_method_5_code 33 = .ok (.aload_n 0, 1) := by decide +kernel
theorem d_Laying_improve_34 : decode prog_6_method_5_code 34 = .ok (.getfield 18, 3) := by decide +kernel
theorem d_Laying_improve_37 : decode prog_6_method_5_code 37 = .ok (.iload_n 2, 1) := by decide +kernel
theorem d_Laying_improve_38 : decode prog_6_method_5_code 38 = .ok (.laload, 1) := by decide +kernel
theorem d_Laying_improve_39 : decode prog_6_method_5_code 39 = .ok (.lconst 0, 1) := by decide +kernel
theorem d_Laying_improve_40 : decode prog_6_method_5_code 40 = .ok (.lcmp, 1) := by decide +kernel
theorem d_Laying_improve_41 : decode prog_6_method_5_code 41 = .ok (.ifCond .eq 33, 3) := by decide +kernel
theorem d_Laying_improve_44 : decode prog_6_method_5_code 44 = .ok (.aload_n 0, 1) := by decide +kernel
theorem d_Laying_improve_45 : decode prog_6_method_5_code 45 = .ok (.getfield 22, 3) := by decide +kernel
theorem d_Laying_improve_48 : decode prog_6_method_5_code 48 = .ok (.iload_n 1, 1) := by decide +kernel
theorem d_Laying_improve_49 : decode prog_6_method_5_code 49 = .ok (.aload_n 0, 1) := by decide +kernel
theorem d_Laying_improve_50 : decode prog_6_method_5_code 50 = .ok (.getfield 22, 3) := by decide +kernel
theorem d_Laying_improve_53 : decode prog_6_method_5_code 53 = .ok (.iload_n 1, 1) := by decide +kernel
theorem d_Laying_improve_54 : decode prog_6_method_5_code 54 = .ok (.laload, 1) := by decide +kernel
theorem d_Laying_improve_55 : decode prog_6_method_5_code 55 = .ok (.aload_n 0, 1) := by decide +kernel
theorem d_Laying_improve_56 : decode prog_6_method_5_code 56 = .ok (.getfield 22, 3) := by decide +kernel
theorem d_Laying_improve_59 : decode prog_6_method_5_code 59 = .ok (.iload_n 1, 1) := by decide +kernel
theorem d_Laying_improve_60 : decode prog_6_method_5_code 60 = .ok (.iload_n 3, 1) := by decide +kernel
theorem d_Laying_improve_61 : decode prog_6_method_5_code 61 = .ok (.ixor, 1) := by decide +kernel
theorem d_Laying_improve_62 : decode prog_6_method_5_code 62 = .ok (.laload, 1) := by decide +kernel
theorem d_Laying_improve_63 : decode prog_6_method_5_code 63 = .ok (.aload_n 0, 1) := by decide +kernel
theorem d_Laying_improve_64 : decode prog_6_method_5_code 64 = .ok (.getfield 18, 3) := by decide +kernel
theorem d_Laying_improve_67 : decode prog_6_method_5_code 67 = .ok (.iload_n 2, 1) := by decide +kernel
theorem d_Laying_improve_68 : decode prog_6_method_5_code 68 = .ok (.laload, 1) := by decide +kernel
theorem d_Laying_improve_69 : decode prog_6_method_5_code 69 = .ok (.ladd, 1) := by decide +kernel
theorem d_Laying_improve_70 : decode prog_6_method_5_code 70 = .ok (.invokestatic 90, 3) := by decide +kernel
theorem d_Laying_improve_73 : decode prog_6_method_5_code 73 = .ok (.lastore, 1) := by decide +kernel
theorem d_Laying_improve_74 : decode prog_6_method_5_code 74 = .ok (.iinc 2 1, 3) := by decide +kernel
theorem d_Laying_improve_77 : decode prog_6_method_5_code 77 = .ok (.goto (-62), 3) := by decide +kernel
theorem d_Laying_lay_98 : decode prog_6_method_2_code 98 = .ok (.lload 4, 2) := by decide +kernel
theorem d_Laying_lay_100 : decode prog_6_method_2_code 100 = .ok (.ldc2_w 57, 3) := by decide +kernel
theorem d_Laying_lay_103 : decode prog_6_method_2_code 103 = .ok (.ldiv, 1) := by decide +kernel
theorem d_Laying_lay_104 : decode prog_6_method_2_code 104 = .ok (.lstore 4, 2) := by decide +kernel
theorem d_Laying_lay_106 : decode prog_6_method_2_code 106 = .ok (.iinc 6 1, 3) := by decide +kernel
theorem d_Laying_lay_109 : decode prog_6_method_2_code 109 = .ok (.goto (-41), 3) := by decide +kernel
theorem d_O_laid_45 : decode prog_1_method_22_code 45 = .ok (.ifCond .ne 6, 3) := by decide +kernel
theorem d_O_laid_48 : decode prog_1_method_22_code 48 = .ok (.bipush (-3), 2) := by decide +kernel
theorem d_O_laid_50 : decode prog_1_method_22_code 50 = .ok (.ireturn, 1) := by decide +kernel
theorem d_O_laid_51 : decode prog_1_method_22_code 51 = .ok (.iload_n 3, 1) := by decide +kernel
theorem d_O_laid_52 : decode prog_1_method_22_code 52 = .ok (.ifCond .ne 13, 3) := by decide +kernel
theorem d_O_laid_55 : decode prog_1_method_22_code 55 = .ok (.aload_n 0, 1) := by decide +kernel
theorem d_O_laid_56 : decode prog_1_method_22_code 56 = .ok (.getfield 46, 3) := by decide +kernel
theorem d_O_laid_59 : decode prog_1_method_22_code 59 = .ok (.invokevirtual 232, 3) := by decide +kernel
theorem d_Laying_countMates_0 : decode prog_6_method_7_code 0 = .ok (.iconst 0, 1) := by decide +kernel
theorem d_Laying_countMates_1 : decode prog_6_method_7_code 1 = .ok (.istore_n 1, 1) := by decide +kernel
theorem d_Laying_countMates_2 : decode prog_6_method_7_code 2 = .ok (.iconst 0, 1) := by decide +kernel
theorem d_Laying_countMates_3 : decode prog_6_method_7_code 3 = .ok (.istore_n 2, 1) := by decide +kernel
theorem d_Laying_countMates_4 : decode prog_6_method_7_code 4 = .ok (.iload_n 2, 1) := by decide +kernel
theorem d_Laying_countMates_5 : decode prog_6_method_7_code 5 = .ok (.aload_n 0, 1) := by decide +kernel
theorem d_Laying_countMates_6 : decode prog_6_method_7_code 6 = .ok (.getfield 35, 3) := by decide +kernel
theorem d_Laying_countMates_9 : decode prog_6_method_7_code 9 = .ok (.if_icmp .ge 20, 3) := by decide +kernel
theorem d_Laying_countMates_29 : decode prog_6_method_7_code 29 = .ok (.iload_n 1, 1) := by decide +kernel
theorem d_Laying_countMates_30 : decode prog_6_method_7_code 30 = .ok (.ireturn, 1) := by decide +kernel
theorem d_Laying_countMates_12 : decode prog_6_method_7_code 12 = .ok (.aload_n 0, 1) := by decide +kernel
theorem d_Laying_countMates_13 : decode prog_6_method_7_code 13 = .ok (.iload_n 2, 1) := by decide +kernel
theorem d_Laying_countMates_14 : decode prog_6_method_7_code 14 = .ok (.invokevirtual 96, 3) := by decide +kernel
theorem d_Laying_figureOf_0 : decode prog_6_method_9_code 0 = .ok (.aload_n 0, 1) := by decide +kernel
theorem d_Laying_figureOf_1 : decode prog_6_method_9_code 1 = .ok (.getfield 59, 3) := by decide +kernel
theorem d_Laying_figureOf_4 : decode prog_6_method_9_code 4 = .ok (.ldc2_w 88, 3) := by decide +kernel
theorem d_Laying_figureOf_7 : decode prog_6_method_9_code 7 = .ok (.lrem, 1) := by decide +kernel
theorem d_Laying_figureOf_8 : decode prog_6_method_9_code 8 = .ok (.lstore_n 2, 1) := by decide +kernel
theorem d_Laying_figureOf_9 : decode prog_6_method_9_code 9 = .ok (.bipush 9, 2) := by decide +kernel
theorem d_Laying_figureOf_11 : decode prog_6_method_9_code 11 = .ok (.istore 4, 2) := by decide +kernel
theorem d_Laying_figureOf_13 : decode prog_6_method_9_code 13 = .ok (.iload 4, 2) := by decide +kernel
theorem d_Laying_figureOf_15 : decode prog_6_method_9_code 15 = .ok (.iload_n 1, 1) := by decide +kernel
theorem d_Laying_figureOf_16 : decode prog_6_method_9_code 16 = .ok (.if_icmp .le 15, 3) := by decide +kernel
theorem d_Laying_figureOf_31 : decode prog_6_method_9_code 31 = .ok (.lload_n 2, 1) := by decide +kernel
theorem d_Laying_figureOf_32 : decode prog_6_method_9_code 32 = .ok (.ldc2_w 57, 3) := by decide +kernel
theorem d_Laying_figureOf_35 : decode prog_6_method_9_code 35 = .ok (.lrem, 1) := by decide +kernel
theorem d_Laying_figureOf_36 : decode prog_6_method_9_code 36 = .ok (.l2i, 1) := by decide +kernel
theorem d_Laying_figureOf_37 : decode prog_6_method_9_code 37 = .ok (.ireturn, 1) := by decide +kernel
theorem d_Laying_figureOf_19 : decode prog_6_method_9_code 19 = .ok (.lload_n 2, 1) := by decide +kernel
theorem d_Laying_figureOf_20 : decode prog_6_method_9_code 20 = .ok (.ldc2_w 57, 3) := by decide +kernel
theorem d_Laying_figureOf_23 : decode prog_6_method_9_code 23 = .ok (.ldiv, 1) := by decide +kernel
theorem d_Laying_figureOf_24 : decode prog_6_method_9_code 24 = .ok (.lstore_n 2, 1) := by decide +kernel
theorem d_Laying_figureOf_25 : decode prog_6_method_9_code 25 = .ok (.iinc 4 (-1), 3) := by decide +kernel
theorem d_Laying_figureOf_28 : decode prog_6_method_9_code 28 = .ok (.goto (-15), 3) := by decide +kernel
theorem d_Laying_countMates_17 : decode prog_6_method_7_code 17 = .ok (.ifCond .eq 6, 3) := by decide +kernel
theorem d_Laying_countMates_20 : decode prog_6_method_7_code 20 = .ok (.iinc 1 1, 3) := by decide +kernel
theorem d_Laying_countMates_23 : decode prog_6_method_7_code 23 = .ok (.iinc 2 1, 3) := by decide +kernel
theorem d_Laying_countMates_26 : decode prog_6_method_7_code 26 = .ok (.goto (-22), 3) := by decide +kernel
theorem d_O_laid_62 : decode prog_1_method_22_code 62 = .ok (.goto 10, 3) := by decide +kernel
theorem d_O_laid_72 : decode prog_1_method_22_code 72 = .ok (.ireturn, 1) := by decide +kernel
theorem d_O_laid_65 : decode prog_1_method_22_code 65 = .ok (.aload_n 0, 1) := by decide +kernel
theorem d_O_laid_66 : decode prog_1_method_22_code 66 = .ok (.getfield 46, 3) := by decide +kernel
theorem d_O_laid_69 : decode prog_1_method_22_code 69 = .ok (.invokevirtual 235, 3) := by decide +kernel
theorem d_Laying_sumOfAll_0 : decode prog_6_method_6_code 0 = .ok (.aload_n 0, 1) := by decide +kernel
theorem d_Laying_sumOfAll_1 : decode prog_6_method_6_code 1 = .ok (.getfield 59, 3) := by decide +kernel
theorem d_Laying_sumOfAll_4 : decode prog_6_method_6_code 4 = .ok (.ldc2_w 88, 3) := by decide +kernel
theorem d_Laying_sumOfAll_7 : decode prog_6_method_6_code 7 = .ok (.ldiv, 1) := by decide +kernel
theorem d_Laying_sumOfAll_8 : decode prog_6_method_6_code 8 = .ok (.l2i, 1) := by decide +kernel
theorem d_Laying_sumOfAll_9 : decode prog_6_method_6_code 9 = .ok (.ireturn, 1) := by decide +kernel
theorem d_O_mate_0 : decode prog_1_method_23_code 0 = .ok (.aload_n 0, 1) := by decide +kernel
theorem d_O_mate_1 : decode prog_1_method_23_code 1 = .ok (.getfield 27, 3) := by decide +kernel
theorem d_O_mate_4 : decode prog_1_method_23_code 4 = .ok (.iload_n 1, 1) := by decide +kernel
theorem d_O_mate_5 : decode prog_1_method_23_code 5 = .ok (.invokevirtual 138, 3) := by decide +kernel
theorem d_O_mate_8 : decode prog_1_method_23_code 8 = .ok (.ifCond .eq 35, 3) := by decide +kernel
theorem d_O_mate_43 : decode prog_1_method_23_code 43 = .ok (.bipush (-2), 2) := by decide +kernel
theorem d_O_mate_45 : decode prog_1_method_23_code 45 = .ok (.ireturn, 1) := by decide +kernel
theorem d_O_mate_11 : decode prog_1_method_23_code 11 = .ok (.iload_n 2, 1) := by decide +kernel
theorem d_O_mate_12 : decode prog_1_method_23_code 12 = .ok (.iconst 3, 1) := by decide +kernel
theorem d_O_mate_13 : decode prog_1_method_23_code 13 = .ok (.invokestatic 88, 3) := by decide +kernel
theorem d_O_mate_16 : decode prog_1_method_23_code 16 = .ok (.ifCond .eq 27, 3) := by decide +kernel
theorem d_O_mate_19 : decode prog_1_method_23_code 19 = .ok (.aload_n 0, 1) := by decide +kernel
theorem d_O_mate_20 : decode prog_1_method_23_code 20 = .ok (.getfield 27, 3) := by decide +kernel
theorem d_O_mate_23 : decode prog_1_method_23_code 23 = .ok (.iload_n 1, 1) := by decide +kernel
theorem d_O_mate_24 : decode prog_1_method_23_code 24 = .ok (.invokevirtual 148, 3) := by decide +kernel
theorem d_O_mate_27 : decode prog_1_method_23_code 27 = .ok (.ifCond .eq 16, 3) := by decide +kernel
theorem d_O_mate_30 : decode prog_1_method_23_code 30 = .ok (.aload_n 0, 1) := by decide +kernel
theorem d_O_mate_31 : decode prog_1_method_23_code 31 = .ok (.getfield 27, 3) := by decide +kernel
theorem d_O_mate_34 : decode prog_1_method_23_code 34 = .ok (.iload_n 1, 1) := by decide +kernel
theorem d_O_mate_35 : decode prog_1_method_23_code 35 = .ok (.iconst 0, 1) := by decide +kernel
theorem d_O_mate_36 : decode prog_1_method_23_code 36 = .ok (.invokevirtual 141, 3) := by decide +kernel
theorem d_O_mate_39 : decode prog_1_method_23_code 39 = .ok (.iload_n 2, 1) := by decide +kernel
theorem d_O_mate_40 : decode prog_1_method_23_code 40 = .ok (.if_icmp .ne 6, 3) := by decide +kernel
theorem d_O_mate_46 : decode prog_1_method_23_code 46 = .ok (.aload_n 0, 1) := by decide +kernel
theorem d_O_mate_47 : decode prog_1_method_23_code 47 = .ok (.getfield 46, 3) := by decide +kernel
theorem d_O_mate_50 : decode prog_1_method_23_code 50 = .ok (.aload_n 0, 1) := by decide +kernel
theorem d_O_mate_51 : decode prog_1_method_23_code 51 = .ok (.getfield 19, 3) := by decide +kernel
theorem d_O_mate_54 : decode prog_1_method_23_code 54 = .ok (.aload_n 0, 1) := by decide +kernel
theorem d_O_mate_55 : decode prog_1_method_23_code 55 = .ok (.getfield 27, 3) := by decide +kernel
theorem d_O_mate_58 : decode prog_1_method_23_code 58 = .ok (.iload_n 1, 1) := by decide +kernel
theorem d_O_mate_59 : decode prog_1_method_23_code 59 = .ok (.iconst 0, 1) := by decide +kernel
theorem d_O_mate_60 : decode prog_1_method_23_code 60 = .ok (.invokevirtual 141, 3) := by decide +kernel
theorem d_O_mate_63 : decode prog_1_method_23_code 63 = .ok (.iload_n 2, 1) := by decide +kernel
theorem d_O_mate_64 : decode prog_1_method_23_code 64 = .ok (.invokevirtual 228, 3) := by decide +kernel
theorem d_O_mate_67 : decode prog_1_method_23_code 67 = .ok (.ifCond .ne 6, 3) := by decide +kernel
theorem d_O_mate_70 : decode prog_1_method_23_code 70 = .ok (.bipush (-3), 2) := by decide +kernel
theorem d_O_mate_72 : decode prog_1_method_23_code 72 = .ok (.ireturn, 1) := by decide +kernel
theorem d_O_mate_73 : decode prog_1_method_23_code 73 = .ok (.aload_n 0, 1) := by decide +kernel
theorem d_O_mate_74 : decode prog_1_method_23_code 74 = .ok (.getfield 46, 3) := by decide +kernel
theorem d_O_mate_77 : decode prog_1_method_23_code 77 = .ok (.iload_n 1, 1) := by decide +kernel
theorem d_O_mate_78 : decode prog_1_method_23_code 78 = .ok (.invokevirtual 238, 3) := by decide +kernel
theorem d_Laying_mateOf_0 : decode prog_6_method_8_code 0 = .ok (.iconst 0, 1) := by decide +kernel
theorem d_Laying_mateOf_1 : decode prog_6_method_8_code 1 = .ok (.istore_n 2, 1) := by decide +kernel
theorem d_Laying_mateOf_2 : decode prog_6_method_8_code 2 = .ok (.iload_n 2, 1) := by decide +kernel
theorem d_Laying_mateOf_3 : decode prog_6_method_8_code 3 = .ok (.aload_n 0, 1) := by decide +kernel
theorem d_Laying_mateOf_4 : decode prog_6_method_8_code 4 = .ok (.getfield 35, 3) := by decide +kernel
theorem d_Laying_mateOf_7 : decode prog_6_method_8_code 7 = .ok (.if_icmp .ge 50, 3) := by decide +kernel
theorem d_Laying_mateOf_57 : decode prog_6_method_8_code 57 = .ok (.iconst (-1), 1) := by decide +kernel
theorem d_Laying_mateOf_58 : decode prog_6_method_8_code 58 = .ok (.ireturn, 1) := by decide +kernel
theorem d_Laying_mateOf_10 : decode prog_6_method_8_code 10 = .ok (.aload_n 0, 1) := by decide +kernel
theorem d_Laying_mateOf_11 : decode prog_6_method_8_code 11 = .ok (.iload_n 2, 1) := by decide +kernel
theorem d_Laying_mateOf_12 : decode prog_6_method_8_code 12 = .ok (.invokevirtual 96, 3) := by decide +kernel
theorem d_Laying_mateOf_15 : decode prog_6_method_8_code 15 = .ok (.istore_n 3, 1) := by decide +kernel
theorem d_Laying_mateOf_16 : decode prog_6_method_8_code 16 = .ok (.aload_n 0, 1) := by decide +kernel
theorem d_Laying_mateOf_17 : decode prog_6_method_8_code 17 = .ok (.getfield 11, 3) := by decide +kernel
theorem d_Laying_mateOf_20 : decode prog_6_method_8_code 20 = .ok (.iload_n 2, 1) := by decide +kernel
theorem d_Laying_mateOf_21 : decode prog_6_method_8_code 21 = .ok (.iaload, 1) := by decide +kernel
theorem d_Laying_mateOf_22 : decode prog_6_method_8_code 22 = .ok (.iload_n 1, 1) := by decide +kernel
theorem d_Laying_mateOf_23 : decode prog_6_method_8_code 23 = .ok (.if_icmp .ne 28, 3) := by decide +kernel
theorem d_Laying_mateOf_26 : decode prog_6_method_8_code 26 = .ok (.iload_n 3, 1) := by decide +kernel
theorem d_Laying_mateOf_27 : decode prog_6_method_8_code 27 = .ok (.iconst 1, 1) := by decide +kernel
theorem d_Laying_mateOf_28 : decode prog_6_method_8_code 28 = .ok (.if_icmp .lt 23, 3) := by decide +kernel
theorem d_Laying_mateOf_31 : decode prog_6_method_8_code 31 = .ok (.iload_n 3, 1) := by decide +kernel
theorem d_Laying_mateOf_32 : decode prog_6_method_8_code 32 = .ok (.aload_n 0, 1) := by decide +kernel
theorem d_Laying_mateOf_33 : decode prog_6_method_8_code 33 = .ok (.getfield 39, 3) := by decide +kernel
theorem d_Laying_mateOf_36 : decode prog_6_method_8_code 36 = .ok (.if_icmp .gt 15, 3) := by decide +kernel
theorem d_Laying_mateOf_39 : decode prog_6_method_8_code 39 = .ok (.aload_n 0, 1) := by decide +kernel
theorem d_Laying_mateOf_40 : decode prog_6_method_8_code 40 = .ok (.getfield 15, 3) := by decide +kernel
theorem d_Laying_mateOf_43 : decode prog_6_method_8_code 43 = .ok (.aload_n 0, 1) := by decide +kernel
theorem d_Laying_mateOf_44 : decode prog_6_method_8_code 44 = .ok (.getfield 39, 3) := by decide +kernel
theorem d_Laying_mateOf_47 : decode prog_6_method_8_code 47 = .ok (.iload_n 3, 1) := by decide +kernel
theorem d_Laying_mateOf_48 : decode prog_6_method_8_code 48 = .ok (.isub, 1) := by decide +kernel
theorem d_Laying_mateOf_49 : decode prog_6_method_8_code 49 = .ok (.iaload, 1) := by decide +kernel
theorem d_Laying_mateOf_50 : decode prog_6_method_8_code 50 = .ok (.ireturn, 1) := by decide +kernel
theorem d_Laying_mateOf_51 : decode prog_6_method_8_code 51 = .ok (.iinc 2 1, 3) := by decide +kernel
theorem d_Laying_mateOf_54 : decode prog_6_method_8_code 54 = .ok (.goto (-52), 3) := by decide +kernel
theorem d_O_mate_81 : decode prog_1_method_23_code 81 = .ok (.ireturn, 1) := by decide +kernel
theorem d_O_bundle_0 : decode prog_1_method_24_code 0 = .ok (.aload_n 0, 1) := by decide +kernel
theorem d_O_bundle_1 : decode prog_1_method_24_code 1 = .ok (.getfield 27, 3) := by decide +kernel
theorem d_O_bundle_4 : decode prog_1_method_24_code 4 = .ok (.iload_n 1, 1) := by decide +kernel
theorem d_O_bundle_5 : decode prog_1_method_24_code 5 = .ok (.invokevirtual 138, 3) := by decide +kernel
theorem d_O_bundle_8 : decode prog_1_method_24_code 8 = .ok (.ifCond .ne 6, 3) := by decide +kernel
theorem d_O_bundle_11 : decode prog_1_method_24_code 11 = .ok (.bipush (-2), 2) := by decide +kernel
theorem d_O_bundle_13 : decode prog_1_method_24_code 13 = .ok (.ireturn, 1) := by decide +kernel
theorem d_O_bundle_14 : decode prog_1_method_24_code 14 = .ok (.aload_n 0, 1) := by decide +kernel
theorem d_O_bundle_15 : decode prog_1_method_24_code 15 = .ok (.getfield 27, 3) := by decide +kernel
theorem d_O_bundle_18 : decode prog_1_method_24_code 18 = .ok (.iload_n 1, 1) := by decide +kernel
theorem d_O_bundle_19 : decode prog_1_method_24_code 19 = .ok (.invokevirtual 148, 3) := by decide +kernel
theorem d_O_bundle_22 : decode prog_1_method_24_code 22 = .ok (.ifCond .ne 6, 3) := by decide +kernel
theorem d_O_bundle_25 : decode prog_1_method_24_code 25 = .ok (.bipush (-3), 2) := by decide +kernel
theorem d_O_bundle_27 : decode prog_1_method_24_code 27 = .ok (.ireturn, 1) := by decide +kernel
theorem d_O_bundle_28 : decode prog_1_method_24_code 28 = .ok (.aload_n 0, 1) := by decide +kernel
theorem d_O_bundle_29 : decode prog_1_method_24_code 29 = .ok (.getfield 53, 3) := by decide +kernel
theorem d_O_bundle_32 : decode prog_1_method_24_code 32 = .ok (.aload_n 0, 1) := by decide +kernel
theorem d_O_bundle_33 : decode prog_1_method_24_code 33 = .ok (.getfield 19, 3) := by decide +kernel
theorem d_O_bundle_36 : decode prog_1_method_24_code 36 = .ok (.invokevirtual 241, 3) := by decide +kernel
theorem d_Bundles_gather_0 : decode prog_2_method_2_code 0 = .ok (.aload_n 0, 1) := by decide +kernel
theorem d_Bundles_gather_1 : decode prog_2_method_2_code 1 = .ok (.aload_n 1, 1) := by decide +kernel
theorem d_Bundles_gather_2 : decode prog_2_method_2_code 2 = .ok (.getfield 15, 3) := by decide +kernel
theorem d_Bundles_gather_5 : decode prog_2_method_2_code 5 = .ok (.getfield 21, 3) := by decide +kernel
theorem d_Bundles_gather_8 : decode prog_2_method_2_code 8 = .ok (.putfield 27, 3) := by decide +kernel
theorem d_Bundles_gather_11 : decode prog_2_method_2_code 11 = .ok (.iconst 0, 1) := by decide +kernel
theorem d_Bundles_gather_12 : decode prog_2_method_2_code 12 = .ok (.istore_n 2, 1) := by decide +kernel
theorem d_Bundles_gather_13 : decode prog_2_method_2_code 13 = .ok (.iload_n 2, 1) := by decide +kernel
theorem d_Bundles_gather_14 : decode prog_2_method_2_code 14 = .ok (.aload_n 0, 1) := by decide +kernel
theorem d_Bundles_gather_15 : decode prog_2_method_2_code 15 = .ok (.getfield 27, 3) := by decide +kernel
theorem d_Bundles_gather_18 : decode prog_2_method_2_code 18 = .ok (.if_icmp .ge 31, 3) := by decide +kernel
theorem d_Bundles_gather_49 : decode prog_2_method_2_code 49 = .ok (.iconst 0, 1) := by decide +kernel
theorem d_Bundles_gather_50 : decode prog_2_method_2_code 50 = .ok (.istore_n 2, 1) := by decide +kernel
theorem d_Bundles_gather_21 : decode prog_2_method_2_code 21 = .ok (.aload_n 0, 1) := by decide +kernel
theorem d_Bundles_gather_22 : decode prog_2_method_2_code 22 = .ok (.getfield 9, 3) := by decide +kernel
theorem d_Bundles_gather_25 : decode prog_2_method_2_code 25 = .ok (.iload_n 2, 1) := by decide +kernel
theorem d_Bundles_gather_26 : decode prog_2_method_2_code 26 = .ok (.aload_n 1, 1) := by decide +kernel
theorem d_Bundles_gather_27 : decode prog_2_method_2_code 27 = .ok (.getfield 15, 3) := by decide +kernel
theorem d_Bundles_gather_30 : decode prog_2_method_2_code 30 = .ok (.iload_n 2, 1) := by decide +kernel
theorem d_Bundles_gather_31 : decode prog_2_method_2_code 31 = .ok (.invokevirtual 28, 3) := by decide +kernel
theorem d_Bundles_gather_34 : decode prog_2_method_2_code 34 = .ok (.ifCond .eq 7, 3) := by decide +kernel
theorem d_Bundles_gather_41 : decode prog_2_method_2_code 41 = .ok (.iconst (-1), 1) := by decide +kernel
theorem d_Bundles_gather_37 : decode prog_2_method_2_code 37 = .ok (.iload_n 2, 1) := by decide +kernel
theorem d_Bundles_gather_38 : decode prog_2_method_2_code 38 = .ok (.goto 4, 3) := by decide +kernel
theorem d_Bundles_gather_51 : decode prog_2_method_2_code 51 = .ok (.iload_n 2, 1) := by decide +kernel
theorem d_Bundles_gather_52 : decode prog_2_method_2_code 52 = .ok (.aload_n 0, 1) := by decide +kernel
theorem d_Bundles_gather_53 : decode prog_2_method_2_code 53 = .ok (.getfield 27, 3) := by decide +kernel
theorem d_Bundles_gather_56 : decode prog_2_method_2_code 56 = .ok (.if_icmp .ge 67, 3) := by decide +kernel
theorem d_Bundles_gather_123 : decode prog_2_method_2_code 123 = .ok (.return_, 1) := by decide +kernel
theorem d_Bundles_gather_59 : decode prog_2_method_2_code 59 = .ok (.iload_n 2, 1) := by decide +kernel
theorem d_Bundles_gather_60 : decode prog_2_method_2_code 60 = .ok (.iconst 1, 1) := by decide +kernel
theorem d_Bundles_gather_61 : decode prog_2_method_2_code 61 = .ok (.iadd, 1) := by decide +kernel
theorem d_Bundles_gather_62 : decode prog_2_method_2_code 62 = .ok (.istore_n 3, 1) := by decide +kernel
theorem d_Bundles_gather_42 : decode prog_2_method_2_code 42 = .ok (.iastore, 1) := by decide +kernel
theorem d_Bundles_gather_43 : decode prog_2_method_2_code 43 = .ok (.iinc 2 1, 3) := by decide +kernel
theorem d_Bundles_gather_46 : decode prog_2_method_2_code 46 = .ok (.goto (-33), 3) := by decide +kernel
theorem d_Bundles_gather_63 : decode prog_2_method_2_code 63 = .ok (.iload_n 3, 1) := by decide +kernel
theorem d_Bundles_gather_64 : decode prog_2_method_2_code 64 = .ok (.aload_n 0, 1) := by decide +kernel
theorem d_Bundles_gather_65 : decode prog_2_method_2_code 65 = .ok (.getfield 27, 3) := by decide +kernel
theorem d_Bundles_gather_68 : decode prog_2_method_2_code 68 = .ok (.if_icmp .ge 49, 3) := by decide +kernel
theorem d_Bundles_gather_117 : decode prog_2_method_2_code 117 = .ok (.iinc 2 1, 3) := by decide +kernel
theorem d_Bundles_gather_120 : decode prog_2_method_2_code 120 = .ok (.goto (-69), 3) := by decide +kernel
theorem d_Bundles_gather_71 : decode prog_2_method_2_code 71 = .ok (.aload_n 0, 1) := by decide +kernel
theorem d_Bundles_gather_72 : decode prog_2_method_2_code 72 = .ok (.getfield 9, 3) := by decide +kernel
theorem d_Bundles_gather_75 : decode prog_2_method_2_code 75 = .ok (.iload_n 2, 1) := by decide +kernel
theorem d_Bundles_gather_76 : decode prog_2_method_2_code 76 = .ok (.iaload, 1) := by decide +kernel
theorem d_Bundles_gather_77 : decode prog_2_method_2_code 77 = .ok (.aload_n 0, 1) := by decide +kernel
theorem d_Bundles_gather_78 : decode prog_2_method_2_code 78 = .ok (.getfield 9, 3) := by decide +kernel
theorem d_Bundles_gather_81 : decode prog_2_method_2_code 81 = .ok (.iload_n 3, 1) := by decide +kernel
theorem d_Bundles_gather_82 : decode prog_2_method_2_code 82 = .ok (.iaload, 1) := by decide +kernel
theorem d_Bundles_gather_83 : decode prog_2_method_2_code 83 = .ok (.if_icmp .eq 28, 3) := by decide +kernel
theorem d_Bundles_gather_86 : decode prog_2_method_2_code 86 = .ok (.aload_n 1, 1) := by decide +kernel
theorem d_Bundles_gather_87 : decode prog_2_method_2_code 87 = .ok (.iload_n 2, 1) := by decide +kernel
theorem d_Bundles_gather_88 : decode prog_2_method_2_code 88 = .ok (.iload_n 3, 1) := by decide +kernel
theorem d_Bundles_gather_89 : decode prog_2_method_2_code 89 = .ok (.invokevirtual 32, 3) := by decide +kernel
theorem d_Bundles_gather_92 : decode prog_2_method_2_code 92 = .ok (.ifCond .eq 19, 3) := by decide +kernel
theorem d_Bundles_gather_95 : decode prog_2_method_2_code 95 = .ok (.aload_n 0, 1) := by decide +kernel
theorem d_Bundles_gather_96 : decode prog_2_method_2_code 96 = .ok (.aload_n 0, 1) := by decide +kernel
theorem d_Bundles_gather_97 : decode prog_2_method_2_code 97 = .ok (.getfield 9, 3) := by decide +kernel
theorem d_Bundles_gather_100 : decode prog_2_method_2_code 100 = .ok (.iload_n 2, 1) := by decide +kernel
theorem d_Bundles_gather_101 : decode prog_2_method_2_code 101 = .ok (.iaload, 1) := by decide +kernel
theorem d_Bundles_gather_102 : decode prog_2_method_2_code 102 = .ok (.aload_n 0, 1) := by decide +kernel
theorem d_Bundles_gather_103 : decode prog_2_method_2_code 103 = .ok (.getfield 9, 3) := by decide +kernel
theorem d_Bundles_gather_106 : decode prog_2_method_2_code 106 = .ok (.iload_n 3, 1) := by decide +kernel
theorem d_Bundles_gather_107 : decode prog_2_method_2_code 107 = .ok (.iaload, 1) := by decide +kernel
theorem d_Bundles_gather_108 : decode prog_2_method_2_code 108 = .ok (.invokevirtual 36, 3) := by decide +kernel
theorem d_Bundles_join_0 : decode prog_2_method_3_code 0 = .ok (.iload_n 1, 1) := by decide +kernel
theorem d_Bundles_join_1 : decode prog_2_method_3_code 1 = .ok (.iload_n 2, 1) := by decide +kernel
theorem d_Bundles_join_2 : decode prog_2_method_3_code 2 = .ok (.invokestatic 40, 3) := by decide +kernel
theorem d_Bundles_join_5 : decode prog_2_method_3_code 5 = .ok (.istore_n 3, 1) := by decide +kernel
theorem d_Bundles_join_6 : decode prog_2_method_3_code 6 = .ok (.iload_n 1, 1) := by decide +kernel
theorem d_Bundles_join_7 : decode prog_2_method_3_code 7 = .ok (.iload_n 2, 1) := by decide +kernel
theorem d_Bundles_join_8 : decode prog_2_method_3_code 8 = .ok (.invokestatic 46, 3) := by decide +kernel
theorem d_Bundles_join_11 : decode prog_2_method_3_code 11 = .ok (.istore 4, 2) := by decide +kernel
theorem d_Bundles_join_13 : decode prog_2_method_3_code 13 = .ok (.iconst 0, 1) := by decide +kernel
theorem d_Bundles_join_14 : decode prog_2_method_3_code 14 = .ok (.istore 5, 2) := by decide +kernel
theorem d_Bundles_join_16 : decode prog_2_method_3_code 16 = .ok (.iload 5, 2) := by decide +kernel
theorem d_Bundles_join_18 : decode prog_2_method_3_code 18 = .ok (.aload_n 0, 1) := by decide +kernel
theorem d_Bundles_join_19 : decode prog_2_method_3_code 19 = .ok (.getfield 27, 3) := by decide +kernel
theorem d_Bundles_join_22 : decode prog_2_method_3_code 22 = .ok (.if_icmp .ge 29, 3) := by decide +kernel
theorem d_Bundles_join_51 : decode prog_2_method_3_code 51 = .ok (.return_, 1) := by decide +kernel
theorem d_Bundles_join_25 : decode prog_2_method_3_code 25 = .ok (.aload_n 0, 1) := by decide +kernel
theorem d_Bundles_join_26 : decode prog_2_method_3_code 26 = .ok (.getfield 9, 3) := by decide +kernel
theorem d_Bundles_join_29 : decode prog_2_method_3_code 29 = .ok (.iload 5, 2) := by decide +kernel
theorem d_Bundles_join_31 : decode prog_2_method_3_code 31 = .ok (.iaload, 1) := by decide +kernel
theorem d_Bundles_join_32 : decode prog_2_method_3_code 32 = .ok (.iload 4, 2) := by decide +kernel
theorem d_Bundles_join_34 : decode prog_2_method_3_code 34 = .ok (.if_icmp .ne 11, 3) := by decide +kernel
theorem d_Bundles_join_37 : decode prog_2_method_3_code 37 = .ok (.aload_n 0, 1) := by decide +kernel
theorem d_Bundles_join_38 : decode prog_2_method_3_code 38 = .ok (.getfield 9, 3) := by decide +kernel
theorem d_Bundles_join_41 : decode prog_2_method_3_code 41 = .ok (.iload 5, 2) := by decide +kernel
theorem d_Bundles_join_43 : decode prog_2_method_3_code 43 = .ok (.iload_n 3, 1) := by decide +kernel
theorem d_Bundles_join_44 : decode prog_2_method_3_code 44 = .ok (.iastore, 1) := by decide +kernel
theorem d_Bundles_join_45 : decode prog_2_method_3_code 45 = .ok (.iinc 5 1, 3) := by decide +kernel
theorem d_Bundles_join_48 : decode prog_2_method_3_code 48 = .ok (.goto (-32), 3) := by decide +kernel
theorem d_Bundles_gather_111 : decode prog_2_method_2_code 111 = .ok (.iinc 3 1, 3) := by decide +kernel
theorem d_Bundles_gather_114 : decode prog_2_method_2_code 114 = .ok (.goto (-51), 3) := by decide +kernel
theorem d_O_bundle_39 : decode prog_1_method_24_code 39 = .ok (.aload_n 0, 1) := by decide +kernel
theorem d_O_bundle_40 : decode prog_1_method_24_code 40 = .ok (.getfield 53, 3) := by decide +kernel
theorem d_O_bundle_43 : decode prog_1_method_24_code 43 = .ok (.iload_n 1, 1) := by decide +kernel
theorem d_O_bundle_44 : decode prog_1_method_24_code 44 = .ok (.invokevirtual 245, 3) := by decide +kernel
theorem d_Bundles_numberOf_0 : decode prog_2_method_4_code 0 = .ok (.aload_n 0, 1) := by decide +kernel
theorem d_Bundles_numberOf_1 : decode prog_2_method_4_code 1 = .ok (.getfield 9, 3) := by decide +kernel
theorem d_Bundles_numberOf_4 : decode prog_2_method_4_code 4 = .ok (.iload_n 1, 1) := by decide +kernel
theorem d_Bundles_numberOf_5 : decode prog_2_method_4_code 5 = .ok (.iaload, 1) := by decide +kernel
theorem d_Bundles_numberOf_6 : decode prog_2_method_4_code 6 = .ok (.ireturn, 1) := by decide +kernel
theorem d_O_bundle_47 : decode prog_1_method_24_code 47 = .ok (.ireturn, 1) := by decide +kernel
theorem d_O_bundles_0 : decode prog_1_method_25_code 0 = .ok (.iload_n 1, 1) := by decide +kernel
theorem d_O_bundles_1 : decode prog_1_method_25_code 1 = .ok (.iconst 3, 1) := by decide +kernel
theorem d_O_bundles_2 : decode prog_1_method_25_code 2 = .ok (.invokestatic 88, 3) := by decide +kernel
theorem d_O_bundles_5 : decode prog_1_method_25_code 5 = .ok (.ifCond .ne 6, 3) := by decide +kernel
theorem d_O_bundles_8 : decode prog_1_method_25_code 8 = .ok (.bipush (-2), 2) := by decide +kernel
theorem d_O_bundles_10 : decode prog_1_method_25_code 10 = .ok (.ireturn, 1) := by decide +kernel
theorem d_O_bundles_11 : decode prog_1_method_25_code 11 = .ok (.aload_n 0, 1) := by decide +kernel
theorem d_O_bundles_12 : decode prog_1_method_25_code 12 = .ok (.getfield 53, 3) := by decide +kernel
theorem d_O_bundles_15 : decode prog_1_method_25_code 15 = .ok (.aload_n 0, 1) := by decide +kernel
theorem d_O_bundles_16 : decode prog_1_method_25_code 16 = .ok (.getfield 19, 3) := by decide +kernel
theorem d_O_bundles_19 : decode prog_1_method_25_code 19 = .ok (.invokevirtual 241, 3) := by decide +kernel
theorem d_O_bundles_22 : decode prog_1_method_25_code 22 = .ok (.iload_n 1, 1) := by decide +kernel
theorem d_O_bundles_23 : decode prog_1_method_25_code 23 = .ok (.iconst 2, 1) := by decide +kernel
theorem d_O_bundles_24 : decode prog_1_method_25_code 24 = .ok (.if_icmp .ne 11, 3) := by decide +kernel
theorem d_O_bundles_27 : decode prog_1_method_25_code 27 = .ok (.aload_n 0, 1) := by decide +kernel
theorem d_O_bundles_28 : decode prog_1_method_25_code 28 = .ok (.getfield 53, 3) := by decide +kernel
theorem d_O_bundles_31 : decode prog_1_method_25_code 31 = .ok (.invokevirtual 248, 3) := by decide +kernel
theorem d_Bundles_greatest_0 : decode prog_2_method_6_code 0 = .ok (.iconst 0, 1) := by decide +kernel
theorem d_Bundles_greatest_1 : decode prog_2_method_6_code 1 = .ok (.istore_n 1, 1) := by decide +kernel
theorem d_Bundles_greatest_2 : decode prog_2_method_6_code 2 = .ok (.iconst 0, 1) := by decide +kernel
theorem d_Bundles_greatest_3 : decode prog_2_method_6_code 3 = .ok (.istore_n 2, 1) := by decide +kernel
theorem d_Bundles_greatest_4 : decode prog_2_method_6_code 4 = .ok (.iload_n 2, 1) := by decide +kernel
theorem d_Bundles_greatest_5 : decode prog_2_method_6_code 5 = .ok (.aload_n 0, 1) := by decide +kernel
theorem d_Bundles_greatest_6 : decode prog_2_method_6_code 6 = .ok (.getfield 27, 3) := by decide +kernel
theorem d_Bundles_greatest_9 : decode prog_2_method_6_code 9 = .ok (.if_icmp .ge 29, 3) := by decide +kernel
theorem d_Bundles_greatest_38 : decode prog_2_method_6_code 38 = .ok (.iload_n 1, 1) := by decide +kernel
theorem d_Bundles_greatest_39 : decode prog_2_method_6_code 39 = .ok (.ireturn, 1) := by decide +kernel
theorem d_Bundles_greatest_12 : decode prog_2_method_6_code 12 = .ok (.aload_n 0, 1) := by decide +kernel
theorem d_Bundles_greatest_13 : decode prog_2_method_6_code 13 = .ok (.getfield 9, 3) := by decide +kernel
theorem d_Bundles_greatest_16 : decode prog_2_method_6_code 16 = .ok (.iload_n 2, 1) := by decide +kernel
theorem d_Bundles_greatest_17 : decode prog_2_method_6_code 17 = .ok (.iaload, 1) := by decide +kernel
theorem d_Bundles_greatest_18 : decode prog_2_method_6_code 18 = .ok (.iload_n 2, 1) := by decide +kernel
theorem d_Bundles_greatest_19 : decode prog_2_method_6_code 19 = .ok (.if_icmp .ne 13, 3) := by decide +kernel
theorem d_Bundles_greatest_22 : decode prog_2_method_6_code 22 = .ok (.iload_n 1, 1) := by decide +kernel
theorem d_Bundles_greatest_23 : decode prog_2_method_6_code 23 = .ok (.aload_n 0, 1) := by decide +kernel
theorem d_Bundles_greatest_24 : decode prog_2_method_6_code 24 = .ok (.iload_n 2, 1) := by decide +kernel
theorem d_Bundles_greatest_25 : decode prog_2_method_6_code 25 = .ok (.invokevirtual 49, 3) := by decide +kernel
theorem d_Bundles_sizeOf_0 : decode prog_2_method_5_code 0 = .ok (.iconst 0, 1) := by decide +kernel
theorem d_Bundles_sizeOf_1 : decode prog_2_method_5_code 1 = .ok (.istore_n 2, 1) := by decide +kernel
theorem d_Bundles_sizeOf_2 : decode prog_2_method_5_code 2 = .ok (.iconst 0, 1) := by decide +kernel
theorem d_Bundles_sizeOf_3 : decode prog_2_method_5_code 3 = .ok (.istore_n 3, 1) := by decide +kernel
theorem d_Bundles_sizeOf_4 : decode prog_2_method_5_code 4 = .ok (.iload_n 3, 1) := by decide +kernel
theorem d_Bundles_sizeOf_5 : decode prog_2_method_5_code 5 = .ok (.aload_n 0, 1) := by decide +kernel
theorem d_Bundles_sizeOf_6 : decode prog_2_method_5_code 6 = .ok (.getfield 27, 3) := by decide +kernel
theorem d_Bundles_sizeOf_9 : decode prog_2_method_5_code 9 = .ok (.if_icmp .ge 22, 3) := by decide +kernel
theorem d_Bundles_sizeOf_31 : decode prog_2_method_5_code 31 = .ok (.iload_n 2, 1) := by decide +kernel
theorem d_Bundles_sizeOf_32 : decode prog_2_method_5_code 32 = .ok (.ireturn, 1) := by decide +kernel
theorem d_Bundles_sizeOf_12 : decode prog_2_method_5_code 12 = .ok (.aload_n 0, 1) := by decide +kernel
theorem d_Bundles_sizeOf_13 : decode prog_2_method_5_code 13 = .ok (.getfield 9, 3) := by decide +kernel
theorem d_Bundles_sizeOf_16 : decode prog_2_method_5_code 16 = .ok (.iload_n 3, 1) := by decide +kernel
theorem d_Bundles_sizeOf_17 : decode prog_2_method_5_code 17 = .ok (.iaload, 1) := by decide +kernel
theorem d_Bundles_sizeOf_18 : decode prog_2_method_5_code 18 = .ok (.iload_n 1, 1) := by decide +kernel
theorem d_Bundles_sizeOf_19 : decode prog_2_method_5_code 19 = .ok (.if_icmp .ne 6, 3) := by decide +kernel
theorem d_Bundles_sizeOf_22 : decode prog_2_method_5_code 22 = .ok (.iinc 2 1, 3) := by decide +kernel
theorem d_Bundles_sizeOf_25 : decode prog_2_method_5_code 25 = .ok (.iinc 3 1, 3) := by decide +kernel
theorem d_Bundles_sizeOf_28 : decode prog_2_method_5_code 28 = .ok (.goto (-24), 3) := by decide +kernel
theorem d_Bundles_greatest_28 : decode prog_2_method_6_code 28 = .ok (.invokestatic 46, 3) := by decide +kernel
theorem d_Bundles_greatest_31 : decode prog_2_method_6_code 31 = .ok (.istore_n 1, 1) := by decide +kernel
theorem d_Bundles_greatest_32 : decode prog_2_method_6_code 32 = .ok (.iinc 2 1, 3) := by decide +kernel
theorem d_Bundles_greatest_35 : decode prog_2_method_6_code 35 = .ok (.goto (-31), 3) := by decide +kernel
theorem d_O_bundles_34 : decode prog_1_method_25_code 34 = .ok (.ireturn, 1) := by decide +kernel
theorem d_O_bundles_35 : decode prog_1_method_25_code 35 = .ok (.aload_n 0, 1) := by decide +kernel
theorem d_O_bundles_36 : decode prog_1_method_25_code 36 = .ok (.getfield 53, 3) := by decide +kernel
theorem d_O_bundles_39 : decode prog_1_method_25_code 39 = .ok (.aload_n 0, 1) := by decide +kernel
theorem d_O_bundles_40 : decode prog_1_method_25_code 40 = .ok (.getfield 27, 3) := by decide +kernel
theorem d_O_bundles_43 : decode prog_1_method_25_code 43 = .ok (.iload_n 1, 1) := by decide +kernel
theorem d_O_bundles_44 : decode prog_1_method_25_code 44 = .ok (.iconst 1, 1) := by decide +kernel
theorem d_O_bundles_45 : decode prog_1_method_25_code 45 = .ok (.if_icmp .ne 7, 3) := by decide +kernel
theorem d_O_bundles_48 : decode prog_1_method_25_code 48 = .ok (.iconst 1, 1) := by decide +kernel
theorem d_O_bundles_49 : decode prog_1_method_25_code 49 = .ok (.goto 4, 3) := by decide +kernel
theorem d_O_bundles_52 : decode prog_1_method_25_code 52 = .ok (.iconst 0, 1) := by decide +kernel
theorem d_O_bundles_53 : decode prog_1_method_25_code 53 = .ok (.invokevirtual 251, 3) := by decide +kernel
theorem d_Bundles_countAll_0 : decode prog_2_method_7_code 0 = .ok (.iconst 0, 1) := by decide +kernel
theorem d_Bundles_countAll_1 : decode prog_2_method_7_code 1 = .ok (.istore_n 3, 1) := by decide +kernel
theorem d_Bundles_countAll_2 : decode prog_2_method_7_code 2 = .ok (.iconst 0, 1) := by decide +kernel
theorem d_Bundles_countAll_3 : decode prog_2_method_7_code 3 = .ok (.istore 4, 2) := by decide +kernel
theorem d_Bundles_countAll_5 : decode prog_2_method_7_code 5 = .ok (.iload 4, 2) := by decide +kernel
theorem d_Bundles_countAll_7 : decode prog_2_method_7_code 7 = .ok (.aload_n 0, 1) := by decide +kernel
theorem d_Bundles_countAll_8 : decode prog_2_method_7_code 8 = .ok (.getfield 27, 3) := by decide +kernel
theorem d_Bundles_countAll_11 : decode prog_2_method_7_code 11 = .ok (.if_icmp .ge 38, 3) := by decide +kernel
theorem d_Bundles_countAll_49 : decode prog_2_method_7_code 49 = .ok (.iload_n 3, 1) := by decide +kernel
theorem d_Bundles_countAll_50 : decode prog_2_method_7_code 50 = .ok (.ireturn, 1) := by decide +kernel
theorem d_Bundles_countAll_14 : decode prog_2_method_7_code 14 = .ok (.aload_n 0, 1) := by decide +kernel
theorem d_Bundles_countAll_15 : decode prog_2_method_7_code 15 = .ok (.getfield 9, 3) := by decide +kernel
theorem d_Bundles_countAll_18 : decode prog_2_method_7_code 18 = .ok (.iload 4, 2) := by decide +kernel
theorem d_Bundles_countAll_20 : decode prog_2_method_7_code 20 = .ok (.iaload, 1) := by decide +kernel
theorem d_Bundles_countAll_21 : decode prog_2_method_7_code 21 = .ok (.iload 4, 2) := by decide +kernel
theorem d_Bundles_countAll_23 : decode prog_2_method_7_code 23 = .ok (.if_icmp .ne 20, 3) := by decide +kernel
theorem d_Bundles_countAll_26 : decode prog_2_method_7_code 26 = .ok (.iload_n 2, 1) := by decide +kernel
theorem d_Bundles_countAll_27 : decode prog_2_method_7_code 27 = .ok (.ifCond .eq 13, 3) := by decide +kernel
theorem d_Bundles_countAll_30 : decode prog_2_method_7_code 30 = .ok (.aload_n 0, 1) := by decide +kernel
theorem d_Bundles_countAll_31 : decode prog_2_method_7_code 31 = .ok (.aload_n 1, 1) := by decide +kernel
theorem d_Bundles_countAll_32 : decode prog_2_method_7_code 32 = .ok (.iload 4, 2) := by decide +kernel
theorem d_Bundles_countAll_34 : decode prog_2_method_7_code 34 = .ok (.invokevirtual 53, 3) := by decide +kernel
theorem d_Bundles_isTorn_0 : decode prog_2_method_8_code 0 = .ok (.iconst 0, 1) := by decide +kernel
theorem d_Bundles_isTorn_1 : decode prog_2_method_8_code 1 = .ok (.istore_n 3, 1) := by decide +kernel
theorem d_Bundles_isTorn_2 : decode prog_2_method_8_code 2 = .ok (.iconst 0, 1) := by decide +kernel
theorem d_Bundles_isTorn_3 : decode prog_2_method_8_code 3 = .ok (.istore 4, 2) := by decide +kernel
theorem d_Bundles_isTorn_5 : decode prog_2_method_8_code 5 = .ok (.iconst 0, 1) := by decide +kernel
theorem d_Bundles_isTorn_6 : decode prog_2_method_8_code 6 = .ok (.istore 5, 2) := by decide +kernel
theorem d_Bundles_isTorn_8 : decode prog_2_method_8_code 8 = .ok (.iload 5, 2) := by decide +kernel
theorem d_Bundles_isTorn_10 : decode prog_2_method_8_code 10 = .ok (.aload_n 0, 1) := by decide +kernel
theorem d_Bundles_isTorn_11 : decode prog_2_method_8_code 11 = .ok (.getfield 27, 3) := by decide +kernel
theorem d_Bundles_isTorn_14 : decode prog_2_method_8_code 14 = .ok (.if_icmp .ge 73, 3) := by decide +kernel
theorem d_Bundles_isTorn_87 : decode prog_2_method_8_code 87 = .ok (.iload 4, 2) := by decide +kernel
theorem d_Bundles_isTorn_89 : decode prog_2_method_8_code 89 = .ok (.iconst 3, 1) := by decide +kernel
theorem d_Bundles_isTorn_90 : decode prog_2_method_8_code 90 = .ok (.if_icmp .ne 7, 3) := by decide +kernel
theorem d_Bundles_isTorn_93 : decode prog_2_method_8_code 93 = .ok (.iconst 1, 1) := by decide +kernel
theorem d_Bundles_isTorn_94 : decode prog_2_method_8_code 94 = .ok (.goto 4, 3) := by decide +kernel
theorem d_Bundles_isTorn_98 : decode prog_2_method_8_code 98 = .ok (.ireturn, 1) := by decide +kernel
theorem d_Bundles_isTorn_97 : decode prog_2_method_8_code 97 = .ok (.iconst 0, 1) := by decide +kernel
theorem d_Bundles_isTorn_17 : decode prog_2_method_8_code 17 = .ok (.aload_n 0, 1) := by decide +kernel
theorem d_Bundles_isTorn_18 : decode prog_2_method_8_code 18 = .ok (.getfield 9, 3) := by decide +kernel
theorem d_Bundles_isTorn_21 : decode prog_2_method_8_code 21 = .ok (.iload 5, 2) := by decide +kernel
theorem d_Bundles_isTorn_23 : decode prog_2_method_8_code 23 = .ok (.iaload, 1) := by decide +kernel
theorem d_Bundles_isTorn_24 : decode prog_2_method_8_code 24 = .ok (.iload_n 2, 1) := by decide +kernel
theorem d_Bundles_isTorn_25 : decode prog_2_method_8_code 25 = .ok (.if_icmp .ne 56, 3) := by decide +kernel
theorem d_Bundles_isTorn_28 : decode prog_2_method_8_code 28 = .ok (.iconst 1, 1) := by decide +kernel
theorem d_Bundles_isTorn_29 : decode prog_2_method_8_code 29 = .ok (.aload_n 1, 1) := by decide +kernel
theorem d_Bundles_isTorn_30 : decode prog_2_method_8_code 30 = .ok (.iload 5, 2) := by decide +kernel
theorem d_Bundles_isTorn_32 : decode prog_2_method_8_code 32 = .ok (.iconst 0, 1) := by decide +kernel
theorem d_Bundles_isTorn_33 : decode prog_2_method_8_code 33 = .ok (.invokevirtual 57, 3) := by decide +kernel
theorem d_Bundles_isTorn_36 : decode prog_2_method_8_code 36 = .ok (.ishl, 1) := by decide +kernel
theorem d_Bundles_isTorn_37 : decode prog_2_method_8_code 37 = .ok (.istore 6, 2) := by decide +kernel
theorem d_Bundles_isTorn_39 : decode prog_2_method_8_code 39 = .ok (.iload_n 3, 1) := by decide +kernel
theorem d_Bundles_isTorn_40 : decode prog_2_method_8_code 40 = .ok (.iload 6, 2) := by decide +kernel
theorem d_Bundles_isTorn_42 : decode prog_2_method_8_code 42 = .ok (.iand, 1) := by decide +kernel
theorem d_Bundles_isTorn_43 : decode prog_2_method_8_code 43 = .ok (.ifCond .eq 5, 3) := by decide +kernel
theorem d_Bundles_isTorn_48 : decode prog_2_method_8_code 48 = .ok (.iload_n 3, 1) := by decide +kernel
theorem d_Bundles_isTorn_49 : decode prog_2_method_8_code 49 = .ok (.iload 6, 2) := by decide +kernel
theorem d_Bundles_isTorn_51 : decode prog_2_method_8_code 51 = .ok (.ior, 1) := by decide +kernel
theorem d_Bundles_isTorn_52 : decode prog_2_method_8_code 52 = .ok (.istore_n 3, 1) := by decide +kernel
theorem d_Bundles_isTorn_53 : decode prog_2_method_8_code 53 = .ok (.aload_n 1, 1) := by decide +kernel
theorem d_Bundles_isTorn_54 : decode prog_2_method_8_code 54 = .ok (.iload 5, 2) := by decide +kernel
theorem d_Bundles_isTorn_56 : decode prog_2_method_8_code 56 = .ok (.iconst 3, 1) := by decide +kernel
theorem d_Bundles_isTorn_57 : decode prog_2_method_8_code 57 = .ok (.invokevirtual 57, 3) := by decide +kernel
theorem d_Bundles_isTorn_60 : decode prog_2_method_8_code 60 = .ok (.istore 7, 2) := by decide +kernel
theorem d_Bundles_isTorn_62 : decode prog_2_method_8_code 62 = .ok (.iload 4, 2) := by decide +kernel
theorem d_Bundles_isTorn_64 : decode prog_2_method_8_code 64 = .ok (.iload 7, 2) := by decide +kernel
theorem d_Bundles_isTorn_66 : decode prog_2_method_8_code 66 = .ok (.iconst (-1), 1) := by decide +kernel
theorem d_Bundles_isTorn_67 : decode prog_2_method_8_code 67 = .ok (.if_icmp .ne 7, 3) := by decide +kernel
theorem d_Bundles_isTorn_70 : decode prog_2_method_8_code 70 = .ok (.iconst 0, 1) := by decide +kernel
theorem d_Bundles_isTorn_71 : decode prog_2_method_8_code 71 = .ok (.goto 7, 3) := by decide +kernel
theorem d_Bundles_isTorn_74 : decode prog_2_method_8_code 74 = .ok (.iconst 1, 1) := by decide +kernel
theorem d_Bundles_isTorn_75 : decode prog_2_method_8_code 75 = .ok (.iload 7, 2) := by decide +kernel
theorem d_Bundles_isTorn_77 : decode prog_2_method_8_code 77 = .ok (.ishl, 1) := by decide +kernel
theorem d_Bundles_isTorn_46 : decode prog_2_method_8_code 46 = .ok (.iconst 1, 1) := by decide +kernel
theorem d_Bundles_isTorn_47 : decode prog_2_method_8_code 47 = .ok (.ireturn, 1) := by decide +kernel
theorem d_Bundles_isTorn_78 : decode prog_2_method_8_code 78 = .ok (.ior, 1) := by decide +kernel
theorem d_Bundles_isTorn_79 : decode prog_2_method_8_code 79 = .ok (.istore 4, 2) := by decide +kernel
theorem d_Bundles_isTorn_81 : decode prog_2_method_8_code 81 = .ok (.iinc 5 1, 3) := by decide +kernel
theorem d_Bundles_isTorn_84 : decode prog_2_method_8_code 84 = .ok (.goto (-76), 3) := by decide +kernel
theorem d_Bundles_countAll_37 : decode prog_2_method_7_code 37 = .ok (.ifCond .eq 6, 3) := by decide +kernel
theorem d_Bundles_countAll_40 : decode prog_2_method_7_code 40 = .ok (.iinc 3 1, 3) := by decide +kernel
theorem d_Bundles_countAll_43 : decode prog_2_method_7_code 43 = .ok (.iinc 4 1, 3) := by decide +kernel
theorem d_Bundles_countAll_46 : decode prog_2_method_7_code 46 = .ok (.goto (-41), 3) := by decide +kernel
theorem d_O_bundles_56 : decode prog_1_method_25_code 56 = .ok (.ireturn, 1) := by decide +kernel
theorem d_O_torn_0 : decode prog_1_method_26_code 0 = .ok (.aload_n 0, 1) := by decide +kernel
theorem d_O_torn_1 : decode prog_1_method_26_code 1 = .ok (.getfield 27, 3) := by decide +kernel
theorem d_O_torn_4 : decode prog_1_method_26_code 4 = .ok (.iload_n 1, 1) := by decide +kernel
theorem d_O_torn_5 : decode prog_1_method_26_code 5 = .ok (.invokevirtual 138, 3) := by decide +kernel
theorem d_O_torn_8 : decode prog_1_method_26_code 8 = .ok (.ifCond .ne 6, 3) := by decide +kernel
theorem d_O_torn_11 : decode prog_1_method_26_code 11 = .ok (.bipush (-2), 2) := by decide +kernel
theorem d_O_torn_13 : decode prog_1_method_26_code 13 = .ok (.ireturn, 1) := by decide +kernel
theorem d_O_torn_14 : decode prog_1_method_26_code 14 = .ok (.aload_n 0, 1) := by decide +kernel
theorem d_O_torn_15 : decode prog_1_method_26_code 15 = .ok (.getfield 27, 3) := by decide +kernel
theorem d_O_torn_18 : decode prog_1_method_26_code 18 = .ok (.iload_n 1, 1) := by decide +kernel
theorem d_O_torn_19 : decode prog_1_method_26_code 19 = .ok (.invokevirtual 148, 3) := by decide +kernel
theorem d_O_torn_22 : decode prog_1_method_26_code 22 = .ok (.ifCond .ne 6, 3) := by decide +kernel
theorem d_O_torn_25 : decode prog_1_method_26_code 25 = .ok (.bipush (-3), 2) := by decide +kernel
theorem d_O_torn_27 : decode prog_1_method_26_code 27 = .ok (.ireturn, 1) := by decide +kernel
theorem d_O_torn_28 : decode prog_1_method_26_code 28 = .ok (.aload_n 0, 1) := by decide +kernel
theorem d_O_torn_29 : decode prog_1_method_26_code 29 = .ok (.getfield 53, 3) := by decide +kernel
theorem d_O_torn_32 : decode prog_1_method_26_code 32 = .ok (.aload_n 0, 1) := by decide +kernel
theorem d_O_torn_33 : decode prog_1_method_26_code 33 = .ok (.getfield 19, 3) := by decide +kernel
theorem d_O_torn_36 : decode prog_1_method_26_code 36 = .ok (.invokevirtual 241, 3) := by decide +kernel
theorem d_O_torn_39 : decode prog_1_method_26_code 39 = .ok (.aload_n 0, 1) := by decide +kernel
theorem d_O_torn_40 : decode prog_1_method_26_code 40 = .ok (.getfield 53, 3) := by decide +kernel
theorem d_O_torn_43 : decode prog_1_method_26_code 43 = .ok (.aload_n 0, 1) := by decide +kernel
theorem d_O_torn_44 : decode prog_1_method_26_code 44 = .ok (.getfield 27, 3) := by decide +kernel
theorem d_O_torn_47 : decode prog_1_method_26_code 47 = .ok (.aload_n 0, 1) := by decide +kernel
theorem d_O_torn_48 : decode prog_1_method_26_code 48 = .ok (.getfield 53, 3) := by decide +kernel
theorem d_O_torn_51 : decode prog_1_method_26_code 51 = .ok (.iload_n 1, 1) := by decide +kernel
theorem d_O_torn_52 : decode prog_1_method_26_code 52 = .ok (.invokevirtual 245, 3) := by decide +kernel
theorem d_O_torn_55 : decode prog_1_method_26_code 55 = .ok (.invokevirtual 255, 3) := by decide +kernel
theorem d_O_torn_58 : decode prog_1_method_26_code 58 = .ok (.invokestatic 151, 3) := by decide +kernel
theorem d_O_torn_61 : decode prog_1_method_26_code 61 = .ok (.ireturn, 1) := by decide +kernel
theorem d_O_cut_0 : decode prog_1_method_27_code 0 = .ok (.aload_n 0, 1) := by decide +kernel
theorem d_O_cut_1 : decode prog_1_method_27_code 1 = .ok (.getfield 27, 3) := by decide +kernel
theorem d_O_cut_4 : decode prog_1_method_27_code 4 = .ok (.iload_n 1, 1) := by decide +kernel
theorem d_O_cut_5 : decode prog_1_method_27_code 5 = .ok (.iload_n 2, 1) := by decide +kernel
theorem d_O_cut_6 : decode prog_1_method_27_code 6 = .ok (.invokevirtual 190, 3) := by decide +kernel
theorem d_O_cut_9 : decode prog_1_method_27_code 9 = .ok (.ifCond .ne 6, 3) := by decide +kernel
theorem d_O_cut_12 : decode prog_1_method_27_code 12 = .ok (.bipush (-2), 2) := by decide +kernel
theorem d_O_cut_14 : decode prog_1_method_27_code 14 = .ok (.ireturn, 1) := by decide +kernel
theorem d_O_cut_15 : decode prog_1_method_27_code 15 = .ok (.aload_n 0, 1) := by decide +kernel
theorem d_O_cut_16 : decode prog_1_method_27_code 16 = .ok (.getfield 27, 3) := by decide +kernel
theorem d_O_cut_19 : decode prog_1_method_27_code 19 = .ok (.iload_n 1, 1) := by decide +kernel
theorem d_O_cut_20 : decode prog_1_method_27_code 20 = .ok (.iload_n 2, 1) := by decide +kernel
theorem d_O_cut_21 : decode prog_1_method_27_code 21 = .ok (.invokevirtual 259, 3) := by decide +kernel
theorem d_O_cut_24 : decode prog_1_method_27_code 24 = .ok (.ifCond .ne 6, 3) := by decide +kernel
theorem d_O_cut_27 : decode prog_1_method_27_code 27 = .ok (.bipush (-3), 2) := by decide +kernel
theorem d_O_cut_29 : decode prog_1_method_27_code 29 = .ok (.ireturn, 1) := by decide +kernel
theorem d_O_cut_30 : decode prog_1_method_27_code 30 = .ok (.aload_n 0, 1) := by decide +kernel
theorem d_O_cut_31 : decode prog_1_method_27_code 31 = .ok (.getfield 53, 3) := by decide +kernel
theorem d_O_cut_34 : decode prog_1_method_27_code 34 = .ok (.aload_n 0, 1) := by decide +kernel
theorem d_O_cut_35 : decode prog_1_method_27_code 35 = .ok (.getfield 19, 3) := by decide +kernel
theorem d_O_cut_38 : decode prog_1_method_27_code 38 = .ok (.invokevirtual 241, 3) := by decide +kernel
theorem d_O_cut_41 : decode prog_1_method_27_code 41 = .ok (.aload_n 0, 1) := by decide +kernel
theorem d_O_cut_42 : decode prog_1_method_27_code 42 = .ok (.getfield 53, 3) := by decide +kernel
theorem d_O_cut_45 : decode prog_1_method_27_code 45 = .ok (.iload_n 1, 1) := by decide +kernel
theorem d_O_cut_46 : decode prog_1_method_27_code 46 = .ok (.invokevirtual 245, 3) := by decide +kernel
theorem d_O_cut_49 : decode prog_1_method_27_code 49 = .ok (.istore_n 3, 1) := by decide +kernel
theorem d_O_cut_50 : decode prog_1_method_27_code 50 = .ok (.iload_n 3, 1) := by decide +kernel
theorem d_O_cut_51 : decode prog_1_method_27_code 51 = .ok (.aload_n 0, 1) := by decide +kernel
theorem d_O_cut_52 : decode prog_1_method_27_code 52 = .ok (.getfield 53, 3) := by decide +kernel
theorem d_O_cut_55 : decode prog_1_method_27_code 55 = .ok (.iload_n 2, 1) := by decide +kernel
theorem d_O_cut_56 : decode prog_1_method_27_code 56 = .ok (.invokevirtual 245, 3) := by decide +kernel
theorem d_O_cut_59 : decode prog_1_method_27_code 59 = .ok (.if_icmp .eq 6, 3) := by decide +kernel
theorem d_O_cut_65 : decode prog_1_method_27_code 65 = .ok (.aload_n 0, 1) := by decide +kernel
theorem d_O_cut_66 : decode prog_1_method_27_code 66 = .ok (.getfield 53, 3) := by decide +kernel
theorem d_O_cut_69 : decode prog_1_method_27_code 69 = .ok (.iload_n 3, 1) := by decide +kernel
theorem d_O_cut_70 : decode prog_1_method_27_code 70 = .ok (.invokevirtual 262, 3) := by decide +kernel
theorem d_O_cut_73 : decode prog_1_method_27_code 73 = .ok (.bipush 12, 2) := by decide +kernel
theorem d_O_cut_75 : decode prog_1_method_27_code 75 = .ok (.if_icmp .le 6, 3) := by decide +kernel
theorem d_O_cut_81 : decode prog_1_method_27_code 81 = .ok (.aload_n 0, 1) := by decide +kernel
theorem d_O_cut_82 : decode prog_1_method_27_code 82 = .ok (.getfield 60, 3) := by decide +kernel
theorem d_O_cut_85 : decode prog_1_method_27_code 85 = .ok (.aload_n 0, 1) := by decide +kernel
theorem d_O_cut_86 : decode prog_1_method_27_code 86 = .ok (.getfield 19, 3) := by decide +kernel
theorem d_O_cut_89 : decode prog_1_method_27_code 89 = .ok (.aload_n 0, 1) := by decide +kernel
theorem d_O_cut_90 : decode prog_1_method_27_code 90 = .ok (.getfield 53, 3) := by decide +kernel
theorem d_O_cut_93 : decode prog_1_method_27_code 93 = .ok (.iload_n 3, 1) := by decide +kernel
theorem d_O_cut_94 : decode prog_1_method_27_code 94 = .ok (.invokevirtual 265, 3) := by decide +kernel
theorem d_Cut_enter_0 : decode prog_4_method_2_code 0 = .ok (.aload_n 0, 1) := by decide +kernel
theorem d_Cut_enter_1 : decode prog_4_method_2_code 1 = .ok (.iconst 0, 1) := by decide +kernel
theorem d_Cut_enter_2 : decode prog_4_method_2_code 2 = .ok (.putfield 24, 3) := by decide +kernel
theorem d_Cut_enter_5 : decode prog_4_method_2_code 5 = .ok (.iconst 0, 1) := by decide +kernel
theorem d_Cut_enter_6 : decode prog_4_method_2_code 6 = .ok (.istore 4, 2) := by decide +kernel
theorem d_Cut_enter_8 : decode prog_4_method_2_code 8 = .ok (.iload 4, 2) := by decide +kernel
theorem d_Cut_enter_10 : decode prog_4_method_2_code 10 = .ok (.aload_n 1, 1) := by decide +kernel
theorem d_Cut_enter_11 : decode prog_4_method_2_code 11 = .ok (.getfield 28, 3) := by decide +kernel
theorem d_Cut_enter_14 : decode prog_4_method_2_code 14 = .ok (.getfield 34, 3) := by decide +kernel
theorem d_Cut_enter_17 : decode prog_4_method_2_code 17 = .ok (.if_icmp .ge 49, 3) := by decide +kernel
theorem d_Cut_enter_66 : decode prog_4_method_2_code 66 = .ok (.iconst 0, 1) := by decide +kernel
theorem d_Cut_enter_67 : decode prog_4_method_2_code 67 = .ok (.istore 4, 2) := by decide +kernel
theorem d_Cut_enter_20 : decode prog_4_method_2_code 20 = .ok (.aload_n 2, 1) := by decide +kernel
theorem d_Cut_enter_21 : decode prog_4_method_2_code 21 = .ok (.iload 4, 2) := by decide +kernel
theorem d_Cut_enter_23 : decode prog_4_method_2_code 23 = .ok (.invokevirtual 37, 3) := by decide +kernel
theorem d_Cut_enter_26 : decode prog_4_method_2_code 26 = .ok (.iload_n 3, 1) := by decide +kernel
theorem d_Cut_enter_27 : decode prog_4_method_2_code 27 = .ok (.if_icmp .ne 33, 3) := by decide +kernel
theorem d_Cut_enter_30 : decode prog_4_method_2_code 30 = .ok (.aload_n 0, 1) := by decide +kernel
theorem d_Cut_enter_31 : decode prog_4_method_2_code 31 = .ok (.getfield 24, 3) := by decide +kernel
theorem d_Cut_enter_34 : decode prog_4_method_2_code 34 = .ok (.bipush 12, 2) := by decide +kernel
theorem d_Cut_enter_36 : decode prog_4_method_2_code 36 = .ok (.if_icmp .ge 24, 3) := by decide +kernel
theorem d_Cut_enter_39 : decode prog_4_method_2_code 39 = .ok (.aload_n 0, 1) := by decide +kernel
theorem d_Cut_enter_40 : decode prog_4_method_2_code 40 = .ok (.getfield 9, 3) := by decide +kernel
theorem d_Cut_enter_43 : decode prog_4_method_2_code 43 = .ok (.aload_n 0, 1) := by decide +kernel
theorem d_Cut_enter_44 : decode prog_4_method_2_code 44 = .ok (.getfield 24, 3) := by decide +kernel
theorem d_Cut_enter_47 : decode prog_4_method_2_code 47 = .ok (.iload 4, 2) := by decide +kernel
theorem d_Cut_enter_49 : decode prog_4_method_2_code 49 = .ok (.iastore, 1) := by decide +kernel
theorem d_Cut_enter_50 : decode prog_4_method_2_code 50 = .ok (.aload_n 0, 1) := by decide +kernel
theorem d_Cut_enter_51 : decode prog_4_method_2_code 51 = .ok (.dup, 1) := by decide +kernel
theorem d_Cut_enter_52 : decode prog_4_method_2_code 52 = .ok (.getfield 24, 3) := by decide +kernel
theorem d_Cut_enter_55 : decode prog_4_method_2_code 55 = .ok (.iconst 1, 1) := by decide +kernel
theorem d_Cut_enter_56 : decode prog_4_method_2_code 56 = .ok (.iadd, 1) := by decide +kernel
theorem d_Cut_enter_57 : decode prog_4_method_2_code 57 = .ok (.putfield 24, 3) := by decide +kernel
theorem d_Cut_enter_69 : decode prog_4_method_2_code 69 = .ok (.iload 4, 2) := by decide +kernel
theorem d_Cut_enter_71 : decode prog_4_method_2_code 71 = .ok (.aload_n 0, 1) := by decide +kernel
theorem d_Cut_enter_72 : decode prog_4_method_2_code 72 = .ok (.getfield 24, 3) := by decide +kernel
theorem d_Cut_enter_75 : decode prog_4_method_2_code 75 = .ok (.if_icmp .ge 85, 3) := by decide +kernel
theorem d_Cut_enter_160 : decode prog_4_method_2_code 160 = .ok (.return_, 1) := by decide +kernel
theorem d_Cut_enter_78 : decode prog_4_method_2_code 78 = .ok (.iconst 0, 1) := by decide +kernel
theorem d_Cut_enter_79 : decode prog_4_method_2_code 79 = .ok (.istore 5, 2) := by decide +kernel
theorem d_Cut_enter_60 : decode prog_4_method_2_code 60 = .ok (.iinc 4 1, 3) := by decide +kernel
theorem d_Cut_enter_63 : decode prog_4_method_2_code 63 = .ok (.goto (-55), 3) := by decide +kernel
theorem d_Cut_enter_81 : decode prog_4_method_2_code 81 = .ok (.iload 5, 2) := by decide +kernel
theorem d_Cut_enter_83 : decode prog_4_method_2_code 83 = .ok (.aload_n 0, 1) := by decide +kernel
theorem d_Cut_enter_84 : decode prog_4_method_2_code 84 = .ok (.getfield 24, 3) := by decide +kernel
theorem d_Cut_enter_87 : decode prog_4_method_2_code 87 = .ok (.if_icmp .ge 67, 3) := by decide +kernel
theorem d_Cut_enter_154 : decode prog_4_method_2_code 154 = .ok (.iinc 4 1, 3) := by decide +kernel
theorem d_Cut_enter_157 : decode prog_4_method_2_code 157 = .ok (.goto (-88), 3) := by decide +kernel
theorem d_Cut_enter_90 : decode prog_4_method_2_code 90 = .ok (.iload 4, 2) := by decide +kernel
theorem d_Cut_enter_92 : decode prog_4_method_2_code 92 = .ok (.iload 5, 2) := by decide +kernel
theorem d_Cut_enter_94 : decode prog_4_method_2_code 94 = .ok (.if_icmp .eq 28, 3) := by decide +kernel
theorem d_Cut_enter_97 : decode prog_4_method_2_code 97 = .ok (.aload_n 1, 1) := by decide +kernel
theorem d_Cut_enter_98 : decode prog_4_method_2_code 98 = .ok (.aload_n 0, 1) := by decide +kernel
theorem d_Cut_enter_99 : decode prog_4_method_2_code 99 = .ok (.getfield 9, 3) := by decide +kernel
theorem d_Cut_enter_102 : decode prog_4_method_2_code 102 = .ok (.iload 4, 2) := by decide +kernel
theorem d_Cut_enter_104 : decode prog_4_method_2_code 104 = .ok (.iaload, 1) := by decide +kernel
theorem d_Cut_enter_105 : decode prog_4_method_2_code 105 = .ok (.aload_n 0, 1) := by decide +kernel
theorem d_Cut_enter_106 : decode prog_4_method_2_code 106 = .ok (.getfield 9, 3) := by decide +kernel
theorem d_Cut_enter_109 : decode prog_4_method_2_code 109 = .ok (.iload 5, 2) := by decide +kernel
theorem d_Cut_enter_111 : decode prog_4_method_2_code 111 = .ok (.iaload, 1) := by decide +kernel
theorem d_Cut_enter_112 : decode prog_4_method_2_code 112 = .ok (.invokevirtual 43, 3) := by decide +kernel
theorem d_Cut_enter_115 : decode prog_4_method_2_code 115 = .ok (.ifCond .eq 7, 3) := by decide +kernel
theorem d_Cut_enter_118 : decode prog_4_method_2_code 118 = .ok (.iconst 1, 1) := by decide +kernel
theorem d_Cut_enter_119 : decode prog_4_method_2_code 119 = .ok (.goto 4, 3) := by decide +kernel
theorem d_Cut_enter_122 : decode prog_4_method_2_code 122 = .ok (.iconst 0, 1) := by decide +kernel
theorem d_Cut_enter_123 : decode prog_4_method_2_code 123 = .ok (.istore 6, 2) := by decide +kernel
theorem d_Cut_enter_125 : decode prog_4_method_2_code 125 = .ok (.aload_n 0, 1) := by decide +kernel
theorem d_Cut_enter_126 : decode prog_4_method_2_code 126 = .ok (.getfield 15, 3) := by decide +kernel
theorem d_Cut_enter_129 : decode prog_4_method_2_code 129 = .ok (.iload 4, 2) := by decide +kernel
theorem d_Cut_enter_131 : decode prog_4_method_2_code 131 = .ok (.bipush 12, 2) := by decide +kernel
theorem d_Cut_enter_133 : decode prog_4_method_2_code 133 = .ok (.imul, 1) := by decide +kernel
theorem d_Cut_enter_134 : decode prog_4_method_2_code 134 = .ok (.iload 5, 2) := by decide +kernel
theorem d_Cut_enter_136 : decode prog_4_method_2_code 136 = .ok (.iadd, 1) := by decide +kernel
theorem d_Cut_enter_137 : decode prog_4_method_2_code 137 = .ok (.iload 6, 2) := by decide +kernel
theorem d_Cut_enter_139 : decode prog_4_method_2_code 139 = .ok (.ifCond .eq 7, 3) := by decide +kernel
theorem d_Cut_enter_146 : decode prog_4_method_2_code 146 = .ok (.iconst 0, 1) := by decide +kernel
theorem d_Cut_enter_142 : decode prog_4_method_2_code 142 = .ok (.iconst 1, 1) := by decide +kernel
theorem d_Cut_enter_143 : decode prog_4_method_2_code 143 = .ok (.goto 4, 3) := by decide +kernel
theorem d_Cut_enter_147 : decode prog_4_method_2_code 147 = .ok (.iastore, 1) := by decide +kernel
theorem d_Cut_enter_148 : decode prog_4_method_2_code 148 = .ok (.iinc 5 1, 3) := by decide +kernel
theorem d_Cut_enter_151 : decode prog_4_method_2_code 151 = .ok (.goto (-70), 3) := by decide +kernel
theorem d_O_cut_97 : decode prog_1_method_27_code 97 = .ok (.aload_n 0, 1) := by decide +kernel
theorem d_O_cut_98 : decode prog_1_method_27_code 98 = .ok (.getfield 60, 3) := by decide +kernel
theorem d_O_cut_101 : decode prog_1_method_27_code 101 = .ok (.iload_n 1, 1) := by decide +kernel
theorem d_O_cut_102 : decode prog_1_method_27_code 102 = .ok (.iload_n 2, 1) := by decide +kernel
theorem d_O_cut_103 : decode prog_1_method_27_code 103 = .ok (.invokevirtual 269, 3) := by decide +kernel
theorem d_Cut_fewest_0 : decode prog_4_method_3_code 0 = .ok (.aload_n 0, 1) := by decide +kernel
theorem d_Cut_fewest_1 : decode prog_4_method_3_code 1 = .ok (.iload_n 1, 1) := by decide +kernel
theorem d_Cut_fewest_2 : decode prog_4_method_3_code 2 = .ok (.invokevirtual 47, 3) := by decide +kernel
theorem d_Cut_placeOf_0 : decode prog_4_method_4_code 0 = .ok (.iconst 0, 1) := by decide +kernel
theorem d_Cut_placeOf_1 : decode prog_4_method_4_code 1 = .ok (.istore_n 2, 1) := by decide +kernel
theorem d_Cut_placeOf_2 : decode prog_4_method_4_code 2 = .ok (.iload_n 2, 1) := by decide +kernel
theorem d_Cut_placeOf_3 : decode prog_4_method_4_code 3 = .ok (.aload_n 0, 1) := by decide +kernel
theorem d_Cut_placeOf_4 : decode prog_4_method_4_code 4 = .ok (.getfield 24, 3) := by decide +kernel
theorem d_Cut_placeOf_7 : decode prog_4_method_4_code 7 = .ok (.if_icmp .ge 21, 3) := by decide +kernel
theorem d_Cut_placeOf_28 : decode prog_4_method_4_code 28 = .ok (.iconst 0, 1) := by decide +kernel
theorem d_Cut_placeOf_29 : decode prog_4_method_4_code 29 = .ok (.ireturn, 1) := by decide +kernel
theorem d_Cut_placeOf_10 : decode prog_4_method_4_code 10 = .ok (.aload_n 0, 1) := by decide +kernel
theorem d_Cut_placeOf_11 : decode prog_4_method_4_code 11 = .ok (.getfield 9, 3) := by decide +kernel
theorem d_Cut_placeOf_14 : decode prog_4_method_4_code 14 = .ok (.iload_n 2, 1) := by decide +kernel
theorem d_Cut_placeOf_15 : decode prog_4_method_4_code 15 = .ok (.iaload, 1) := by decide +kernel
theorem d_Cut_placeOf_16 : decode prog_4_method_4_code 16 = .ok (.iload_n 1, 1) := by decide +kernel
theorem d_Cut_placeOf_17 : decode prog_4_method_4_code 17 = .ok (.if_icmp .ne 5, 3) := by decide +kernel
theorem d_Cut_placeOf_20 : decode prog_4_method_4_code 20 = .ok (.iload_n 2, 1) := by decide +kernel
theorem d_Cut_placeOf_21 : decode prog_4_method_4_code 21 = .ok (.ireturn, 1) := by decide +kernel
theorem d_Cut_placeOf_22 : decode prog_4_method_4_code 22 = .ok (.iinc 2 1, 3) := by decide +kernel
theorem d_Cut_placeOf_25 : decode prog_4_method_4_code 25 = .ok (.goto (-23), 3) := by decide +kernel
theorem d_Cut_fewest_5 : decode prog_4_method_3_code 5 = .ok (.istore_n 3, 1) := by decide +kernel
theorem d_Cut_fewest_6 : decode prog_4_method_3_code 6 = .ok (.aload_n 0, 1) := by decide +kernel
theorem d_Cut_fewest_7 : decode prog_4_method_3_code 7 = .ok (.iload_n 2, 1) := by decide +kernel
theorem d_Cut_fewest_8 : decode prog_4_method_3_code 8 = .ok (.invokevirtual 47, 3) := by decide +kernel
theorem d_Cut_fewest_11 : decode prog_4_method_3_code 11 = .ok (.istore 4, 2) := by decide +kernel
theorem d_Cut_fewest_13 : decode prog_4_method_3_code 13 = .ok (.iconst 0, 1) := by decide +kernel
theorem d_Cut_fewest_14 : decode prog_4_method_3_code 14 = .ok (.istore 5, 2) := by decide +kernel
theorem d_Cut_fewest_16 : decode prog_4_method_3_code 16 = .ok (.iload 5, 2) := by decide +kernel
theorem d_Cut_fewest_18 : decode prog_4_method_3_code 18 = .ok (.bipush 12, 2) := by decide +kernel
theorem d_Cut_fewest_20 : decode prog_4_method_3_code 20 = .ok (.if_icmp .ge 26, 3) := by decide +kernel
theorem d_Cut_fewest_46 : decode prog_4_method_3_code 46 = .ok (.iload 5, 2) := by decide +kernel
theorem d_Cut_fewest_48 : decode prog_4_method_3_code 48 = .ok (.ireturn, 1) := by decide +kernel
theorem d_Cut_fewest_23 : decode prog_4_method_3_code 23 = .ok (.aload_n 0, 1) := by decide +kernel
theorem d_Cut_fewest_24 : decode prog_4_method_3_code 24 = .ok (.iload_n 3, 1) := by decide +kernel
theorem d_Cut_fewest_25 : decode prog_4_method_3_code 25 = .ok (.iload 4, 2) := by decide +kernel
theorem d_Cut_fewest_27 : decode prog_4_method_3_code 27 = .ok (.invokevirtual 50, 3) := by decide +kernel
theorem d_Cut_findWay_0 : decode prog_4_method_5_code 0 = .ok (.aload_n 0, 1) := by decide +kernel
theorem d_Cut_findWay_1 : decode prog_4_method_5_code 1 = .ok (.getfield 21, 3) := by decide +kernel
theorem d_Cut_findWay_4 : decode prog_4_method_5_code 4 = .ok (.iconst (-1), 1) := by decide +kernel
theorem d_Cut_findWay_5 : decode prog_4_method_5_code 5 = .ok (.invokestatic 57, 3) := by decide +kernel
theorem d_Cut_findWay_8 : decode prog_4_method_5_code 8 = .ok (.aload_n 0, 1) := by decide +kernel
theorem d_Cut_findWay_9 : decode prog_4_method_5_code 9 = .ok (.getfield 21, 3) := by decide +kernel
theorem d_Cut_findWay_12 : decode prog_4_method_5_code 12 = .ok (.iload_n 1, 1) := by decide +kernel
theorem d_Cut_findWay_13 : decode prog_4_method_5_code 13 = .ok (.iload_n 1, 1) := by decide +kernel
theorem d_Cut_findWay_14 : decode prog_4_method_5_code 14 = .ok (.iastore, 1) := by decide +kernel
theorem d_Cut_findWay_15 : decode prog_4_method_5_code 15 = .ok (.aload_n 0, 1) := by decide +kernel
theorem d_Cut_findWay_16 : decode prog_4_method_5_code 16 = .ok (.getfield 18, 3) := by decide +kernel
theorem d_Cut_findWay_19 : decode prog_4_method_5_code 19 = .ok (.iconst 0, 1) := by decide +kernel
theorem d_Cut_findWay_20 : decode prog_4_method_5_code 20 = .ok (.iload_n 1, 1) := by decide +kernel
theorem d_Cut_findWay_21 : decode prog_4_method_5_code 21 = .ok (.iastore, 1) := by decide +kernel
theorem d_Cut_findWay_22 : decode prog_4_method_5_code 22 = .ok (.iconst 1, 1) := by decide +kernel
theorem d_Cut_findWay_23 : decode prog_4_method_5_code 23 = .ok (.istore_n 3, 1) := by decide +kernel
theorem d_Cut_findWay_24 : decode prog_4_method_5_code 24 = .ok (.iconst 0, 1) := by decide +kernel
theorem d_Cut_findWay_25 : decode prog_4_method_5_code 25 = .ok (.istore 4, 2) := by decide +kernel
theorem d_Cut_findWay_27 : decode prog_4_method_5_code 27 = .ok (.iload 4, 2) := by decide +kernel
theorem d_Cut_findWay_29 : decode prog_4_method_5_code 29 = .ok (.iload_n 3, 1) := by decide +kernel
theorem d_Cut_findWay_30 : decode prog_4_method_5_code 30 = .ok (.if_icmp .ge 92, 3) := by decide +kernel
theorem d_Cut_findWay_33 : decode prog_4_method_5_code 33 = .ok (.iload 4, 2) := by decide +kernel
theorem d_Cut_findWay_35 : decode prog_4_method_5_code 35 = .ok (.aload_n 0, 1) := by decide +kernel
theorem d_Cut_findWay_36 : decode prog_4_method_5_code 36 = .ok (.getfield 24, 3) := by decide +kernel
theorem d_Cut_findWay_39 : decode prog_4_method_5_code 39 = .ok (.if_icmp .ge 83, 3) := by decide +kernel
theorem d_Cut_findWay_42 : decode prog_4_method_5_code 42 = .ok (.aload_n 0, 1) := by decide +kernel
theorem d_Cut_findWay_43 : decode prog_4_method_5_code 43 = .ok (.getfield 18, 3) := by decide +kernel
theorem d_Cut_findWay_46 : decode prog_4_method_5_code 46 = .ok (.iload 4, 2) := by decide +kernel
theorem d_Cut_findWay_48 : decode prog_4_method_5_code 48 = .ok (.iaload, 1) := by decide +kernel
theorem d_Cut_findWay_49 : decode prog_4_method_5_code 49 = .ok (.istore 5, 2) := by decide +kernel
theorem d_Cut_findWay_51 : decode prog_4_method_5_code 51 = .ok (.iconst 0, 1) := by decide +kernel
theorem d_Cut_findWay_52 : decode prog_4_method_5_code 52 = .ok (.istore 6, 2) := by decide +kernel
theorem d_Cut_findWay_122 : decode prog_4_method_5_code 122 = .ok (.aload_n 0, 1) := by decide +kernel
theorem d_Cut_findWay_123 : decode prog_4_method_5_code 123 = .ok (.getfield 21, 3) := by decide +kernel
theorem d_Cut_findWay_126 : decode prog_4_method_5_code 126 = .ok (.iload_n 2, 1) := by decide +kernel
theorem d_Cut_findWay_127 : decode prog_4_method_5_code 127 = .ok (.iaload, 1) := by decide +kernel
theorem d_Cut_findWay_128 : decode prog_4_method_5_code 128 = .ok (.iconst (-1), 1) := by decide +kernel
theorem d_Cut_findWay_129 : decode prog_4_method_5_code 129 = .ok (.if_icmp .eq 7, 3) := by decide +kernel
theorem d_Cut_findWay_136 : decode prog_4_method_5_code 136 = .ok (.iconst 0, 1) := by decide +kernel
theorem d_Cut_findWay_137 : decode prog_4_method_5_code 137 = .ok (.ireturn, 1) := by decide +kernel
theorem d_Cut_findWay_132 : decode prog_4_method_5_code 132 = .ok (.iconst 1, 1) := by decide +kernel
theorem d_Cut_findWay_133 : decode prog_4_method_5_code 133 = .ok (.goto 4, 3) := by decide +kernel
theorem d_Cut_findWay_54 : decode prog_4_method_5_code 54 = .ok (.iload 6, 2) := by decide +kernel
theorem d_Cut_findWay_56 : decode prog_4_method_5_code 56 = .ok (.aload_n 0, 1) := by decide +kernel
theorem d_Cut_findWay_57 : decode prog_4_method_5_code 57 = .ok (.getfield 24, 3) := by decide +kernel
theorem d_Cut_findWay_60 : decode prog_4_method_5_code 60 = .ok (.if_icmp .ge 56, 3) := by decide +kernel
theorem d_Cut_findWay_116 : decode prog_4_method_5_code 116 = .ok (.iinc 4 1, 3) := by decide +kernel
theorem d_Cut_findWay_119 : decode prog_4_method_5_code 119 = .ok (.goto (-92), 3) := by decide +kernel
theorem d_Cut_findWay_63 : decode prog_4_method_5_code 63 = .ok (.aload_n 0, 1) := by decide +kernel
theorem d_Cut_findWay_64 : decode prog_4_method_5_code 64 = .ok (.getfield 21, 3) := by decide +kernel
theorem d_Cut_findWay_67 : decode prog_4_method_5_code 67 = .ok (.iload 6, 2) := by decide +kernel
theorem d_Cut_findWay_69 : decode prog_4_method_5_code 69 = .ok (.iaload, 1) := by decide +kernel
theorem d_Cut_findWay_70 : decode prog_4_method_5_code 70 = .ok (.iconst (-1), 1) := by decide +kernel
theorem d_Cut_findWay_71 : decode prog_4_method_5_code 71 = .ok (.if_icmp .ne 39, 3) := by decide +kernel
theorem d_Cut_findWay_74 : decode prog_4_method_5_code 74 = .ok (.aload_n 0, 1) := by decide +kernel
theorem d_Cut_findWay_75 : decode prog_4_method_5_code 75 = .ok (.getfield 15, 3) := by decide +kernel
theorem d_Cut_findWay_78 : decode prog_4_method_5_code 78 = .ok (.iload 5, 2) := by decide +kernel
theorem d_Cut_findWay_80 : decode prog_4_method_5_code 80 = .ok (.bipush 12, 2) := by decide +kernel
theorem d_Cut_findWay_82 : decode prog_4_method_5_code 82 = .ok (.imul, 1) := by decide +kernel
theorem d_Cut_findWay_83 : decode prog_4_method_5_code 83 = .ok (.iload 6, 2) := by decide +kernel
theorem d_Cut_findWay_85 : decode prog_4_method_5_code 85 = .ok (.iadd, 1) := by decide +kernel
theorem d_Cut_findWay_86 : decode prog_4_method_5_code 86 = .ok (.iaload, 1) := by decide +kernel
theorem d_Cut_findWay_87 : decode prog_4_method_5_code 87 = .ok (.ifCond .le 23, 3) := by decide +kernel
theorem d_Cut_findWay_90 : decode prog_4_method_5_code 90 = .ok (.aload_n 0, 1) := by decide +kernel
theorem d_Cut_findWay_91 : decode prog_4_method_5_code 91 = .ok (.getfield 21, 3) := by decide +kernel
theorem d_Cut_findWay_94 : decode prog_4_method_5_code 94 = .ok (.iload 6, 2) := by decide +kernel
theorem d_Cut_findWay_96 : decode prog_4_method_5_code 96 = .ok (.iload 5, 2) := by decide +kernel
theorem d_Cut_findWay_98 : decode prog_4_method_5_code 98 = .ok (.iastore, 1) := by decide +kernel
theorem d_Cut_findWay_99 : decode prog_4_method_5_code 99 = .ok (.aload_n 0, 1) := by decide +kernel
theorem d_Cut_findWay_100 : decode prog_4_method_5_code 100 = .ok (.getfield 18, 3) := by decide +kernel
theorem d_Cut_findWay_103 : decode prog_4_method_5_code 103 = .ok (.iload_n 3, 1) := by decide +kernel
theorem d_Cut_findWay_104 : decode prog_4_method_5_code 104 = .ok (.iload 6, 2) := by decide +kernel
theorem d_Cut_findWay_106 : decode prog_4_method_5_code 106 = .ok (.iastore, 1) := by decide +kernel
theorem d_Cut_findWay_107 : decode prog_4_method_5_code 107 = .ok (.iinc 3 1, 3) := by decide +kernel
theorem d_Cut_findWay_110 : decode prog_4_method_5_code 110 = .ok (.iinc 6 1, 3) := by decide +kernel
theorem d_Cut_findWay_113 : decode prog_4_method_5_code 113 = .ok (.goto (-59), 3) := by decide +kernel
theorem d_Cut_fewest_30 : decode prog_4_method_3_code 30 = .ok (.ifCond .eq 16, 3) := by decide +kernel
theorem d_Cut_fewest_33 : decode prog_4_method_3_code 33 = .ok (.aload_n 0, 1) := by decide +kernel
theorem d_Cut_fewest_34 : decode prog_4_method_3_code 34 = .ok (.iload_n 3, 1) := by decide +kernel
theorem d_Cut_fewest_35 : decode prog_4_method_3_code 35 = .ok (.iload 4, 2) := by decide +kernel
theorem d_Cut_fewest_37 : decode prog_4_method_3_code 37 = .ok (.invokevirtual 53, 3) := by decide +kernel
theorem d_Cut_goWay_0 : decode prog_4_method_6_code 0 = .ok (.iload_n 2, 1) := by decide +kernel
theorem d_Cut_goWay_1 : decode prog_4_method_6_code 1 = .ok (.istore_n 3, 1) := by decide +kernel
theorem d_Cut_goWay_2 : decode prog_4_method_6_code 2 = .ok (.iconst 0, 1) := by decide +kernel
theorem d_Cut_goWay_3 : decode prog_4_method_6_code 3 = .ok (.istore 4, 2) := by decide +kernel
theorem d_Cut_goWay_5 : decode prog_4_method_6_code 5 = .ok (.iload 4, 2) := by decide +kernel
theorem d_Cut_goWay_7 : decode prog_4_method_6_code 7 = .ok (.aload_n 0, 1) := by decide +kernel
theorem d_Cut_goWay_8 : decode prog_4_method_6_code 8 = .ok (.getfield 24, 3) := by decide +kernel
theorem d_Cut_goWay_11 : decode prog_4_method_6_code 11 = .ok (.if_icmp .ge 57, 3) := by decide +kernel
theorem d_Cut_goWay_68 : decode prog_4_method_6_code 68 = .ok (.return_, 1) := by decide +kernel
theorem d_Cut_goWay_14 : decode prog_4_method_6_code 14 = .ok (.iload_n 3, 1) := by decide +kernel
theorem d_Cut_goWay_15 : decode prog_4_method_6_code 15 = .ok (.iload_n 1, 1) := by decide +kernel
theorem d_Cut_goWay_16 : decode prog_4_method_6_code 16 = .ok (.if_icmp .eq 52, 3) := by decide +kernel
theorem d_Cut_goWay_19 : decode prog_4_method_6_code 19 = .ok (.aload_n 0, 1) := by decide +kernel
theorem d_Cut_goWay_20 : decode prog_4_method_6_code 20 = .ok (.getfield 21, 3) := by decide +kernel
theorem d_Cut_goWay_23 : decode prog_4_method_6_code 23 = .ok (.iload_n 3, 1) := by decide +kernel
theorem d_Cut_goWay_24 : decode prog_4_method_6_code 24 = .ok (.iaload, 1) := by decide +kernel
theorem d_Cut_goWay_25 : decode prog_4_method_6_code 25 = .ok (.istore 5, 2) := by decide +kernel
theorem d_Cut_goWay_27 : decode prog_4_method_6_code 27 = .ok (.aload_n 0, 1) := by decide +kernel
theorem d_Cut_goWay_28 : decode prog_4_method_6_code 28 = .ok (.getfield 15, 3) := by decide +kernel
theorem d_Cut_goWay_31 : decode prog_4_method_6_code 31 = .ok (.iload 5, 2) := by decide +kernel
theorem d_Cut_goWay_33 : decode prog_4_method_6_code 33 = .ok (.bipush 12, 2) := by decide +kernel
theorem d_Cut_goWay_35 : decode prog_4_method_6_code 35 = .ok (.imul, 1) := by decide +kernel
theorem d_Cut_goWay_36 : decode prog_4_method_6_code 36 = .ok (.iload_n 3, 1) := by decide +kernel
theorem d_Cut_goWay_37 : decode prog_4_method_6_code 37 = .ok (.iadd, 1) := by decide +kernel
theorem d_Cut_goWay_38 : decode prog_4_method_6_code 38 = .ok (.dup2, 1) := by decide +kernel
theorem d_Cut_goWay_39 : decode prog_4_method_6_code 39 = .ok (.iaload, 1) := by decide +kernel
theorem d_Cut_goWay_40 : decode prog_4_method_6_code 40 = .ok (.iconst 1, 1) := by decide +kernel
theorem d_Cut_goWay_41 : decode prog_4_method_6_code 41 = .ok (.isub, 1) := by decide +kernel
theorem d_Cut_goWay_42 : decode prog_4_method_6_code 42 = .ok (.iastore, 1) := by decide +kernel
theorem d_Cut_goWay_43 : decode prog_4_method_6_code 43 = .ok (.aload_n 0, 1) := by decide +kernel
theorem d_Cut_goWay_44 : decode prog_4_method_6_code 44 = .ok (.getfield 15, 3) := by decide +kernel
theorem d_Cut_goWay_47 : decode prog_4_method_6_code 47 = .ok (.iload_n 3, 1) := by decide +kernel
theorem d_Cut_goWay_48 : decode prog_4_method_6_code 48 = .ok (.bipush 12, 2) := by decide +kernel
theorem d_Cut_goWay_50 : decode prog_4_method_6_code 50 = .ok (.imul, 1) := by decide +kernel
theorem d_Cut_goWay_51 : decode prog_4_method_6_code 51 = .ok (.iload 5, 2) := by decide +kernel
theorem d_Cut_goWay_53 : decode prog_4_method_6_code 53 = .ok (.iadd, 1) := by decide +kernel
theorem d_Cut_goWay_54 : decode prog_4_method_6_code 54 = .ok (.dup2, 1) := by decide +kernel
theorem d_Cut_goWay_55 : decode prog_4_method_6_code 55 = .ok (.iaload, 1) := by decide +kernel
theorem d_Cut_goWay_56 : decode prog_4_method_6_code 56 = .ok (.iconst 1, 1) := by decide +kernel
theorem d_Cut_goWay_57 : decode prog_4_method_6_code 57 = .ok (.iadd, 1) := by decide +kernel
theorem d_Cut_goWay_58 : decode prog_4_method_6_code 58 = .ok (.iastore, 1) := by decide +kernel
theorem d_Cut_goWay_59 : decode prog_4_method_6_code 59 = .ok (.iload 5, 2) := by decide +kernel
theorem d_Cut_goWay_61 : decode prog_4_method_6_code 61 = .ok (.istore_n 3, 1) := by decide +kernel
theorem d_Cut_goWay_62 : decode prog_4_method_6_code 62 = .ok (.iinc 4 1, 3) := by decide +kernel
theorem d_Cut_goWay_65 : decode prog_4_method_6_code 65 = .ok (.goto (-60), 3) := by decide +kernel
theorem d_Cut_fewest_40 : decode prog_4_method_3_code 40 = .ok (.iinc 5 1, 3) := by decide +kernel
theorem d_Cut_fewest_43 : decode prog_4_method_3_code 43 = .ok (.goto (-27), 3) := by decide +kernel
theorem d_O_cut_106 : decode prog_1_method_27_code 106 = .ok (.ireturn, 1) := by decide +kernel
theorem d_O_cut_78 : decode prog_1_method_27_code 78 = .ok (.bipush (-4), 2) := by decide +kernel
theorem d_O_cut_80 : decode prog_1_method_27_code 80 = .ok (.ireturn, 1) := by decide +kernel
theorem d_O_cut_62 : decode prog_1_method_27_code 62 = .ok (.bipush (-3), 2) := by decide +kernel
theorem d_O_cut_64 : decode prog_1_method_27_code 64 = .ok (.ireturn, 1) := by decide +kernel
theorem d_O_check_0 : decode prog_1_method_28_code 0 = .ok (.aload_n 0, 1) := by decide +kernel
theorem d_O_check_1 : decode prog_1_method_28_code 1 = .ok (.getfield 27, 3) := by decide +kernel
theorem d_O_check_4 : decode prog_1_method_28_code 4 = .ok (.iload_n 1, 1) := by decide +kernel
theorem d_O_check_5 : decode prog_1_method_28_code 5 = .ok (.iload_n 2, 1) := by decide +kernel
theorem d_O_check_6 : decode prog_1_method_28_code 6 = .ok (.invokevirtual 190, 3) := by decide +kernel
theorem d_O_check_9 : decode prog_1_method_28_code 9 = .ok (.ifCond .ne 6, 3) := by decide +kernel
theorem d_O_check_12 : decode prog_1_method_28_code 12 = .ok (.bipush (-2), 2) := by decide +kernel
theorem d_O_check_14 : decode prog_1_method_28_code 14 = .ok (.ireturn, 1) := by decide +kernel
theorem d_O_check_15 : decode prog_1_method_28_code 15 = .ok (.aload_n 0, 1) := by decide +kernel
theorem d_O_check_16 : decode prog_1_method_28_code 16 = .ok (.getfield 67, 3) := by decide +kernel
theorem d_O_check_19 : decode prog_1_method_28_code 19 = .ok (.iload_n 1, 1) := by decide +kernel
theorem d_O_check_20 : decode prog_1_method_28_code 20 = .ok (.iload_n 2, 1) := by decide +kernel
theorem d_O_check_21 : decode prog_1_method_28_code 21 = .ok (.invokevirtual 272, 3) := by decide +kernel
theorem d_Checks_hasRoomFor_0 : decode prog_3_method_3_code 0 = .ok (.aload_n 0, 1) := by decide +kernel
theorem d_Checks_hasRoomFor_1 : decode prog_3_method_3_code 1 = .ok (.iload_n 1, 1) := by decide +kernel
theorem d_Checks_hasRoomFor_2 : decode prog_3_method_3_code 2 = .ok (.iload_n 2, 1) := by decide +kernel
theorem d_Checks_hasRoomFor_3 : decode prog_3_method_3_code 3 = .ok (.invokevirtual 35, 3) := by decide +kernel
theorem d_Checks_find_0 : decode prog_3_method_2_code 0 = .ok (.iload_n 1, 1) := by decide +kernel
theorem d_Checks_find_1 : decode prog_3_method_2_code 1 = .ok (.iload_n 2, 1) := by decide +kernel
theorem d_Checks_find_2 : decode prog_3_method_2_code 2 = .ok (.invokestatic 22, 3) := by decide +kernel
theorem d_Checks_find_5 : decode prog_3_method_2_code 5 = .ok (.istore_n 3, 1) := by decide +kernel
theorem d_Checks_find_6 : decode prog_3_method_2_code 6 = .ok (.iload_n 1, 1) := by decide +kernel
theorem d_Checks_find_7 : decode prog_3_method_2_code 7 = .ok (.iload_n 2, 1) := by decide +kernel
theorem d_Checks_find_8 : decode prog_3_method_2_code 8 = .ok (.invokestatic 28, 3) := by decide +kernel
theorem d_Checks_find_11 : decode prog_3_method_2_code 11 = .ok (.istore 4, 2) := by decide +kernel
theorem d_Checks_find_13 : decode prog_3_method_2_code 13 = .ok (.iconst 0, 1) := by decide +kernel
theorem d_Checks_find_14 : decode prog_3_method_2_code 14 = .ok (.istore 5, 2) := by decide +kernel
theorem d_Checks_find_16 : decode prog_3_method_2_code 16 = .ok (.iload 5, 2) := by decide +kernel
theorem d_Checks_find_18 : decode prog_3_method_2_code 18 = .ok (.aload_n 0, 1) := by decide +kernel
theorem d_Checks_find_19 : decode prog_3_method_2_code 19 = .ok (.getfield 31, 3) := by decide +kernel
theorem d_Checks_find_22 : decode prog_3_method_2_code 22 = .ok (.if_icmp .ge 35, 3) := by decide +kernel
theorem d_Checks_find_57 : decode prog_3_method_2_code 57 = .ok (.aload_n 0, 1) := by decide +kernel
theorem d_Checks_find_58 : decode prog_3_method_2_code 58 = .ok (.getfield 31, 3) := by decide +kernel
theorem d_Checks_find_61 : decode prog_3_method_2_code 61 = .ok (.ireturn, 1) := by decide +kernel
theorem d_Checks_find_25 : decode prog_3_method_2_code 25 = .ok (.aload_n 0, 1) := by decide +kernel
theorem d_Checks_find_26 : decode prog_3_method_2_code 26 = .ok (.getfield 9, 3) := by decide +kernel
theorem d_Checks_find_29 : decode prog_3_method_2_code 29 = .ok (.iload 5, 2) := by decide +kernel
theorem d_Checks_find_31 : decode prog_3_method_2_code 31 = .ok (.iaload, 1) := by decide +kernel
theorem d_Checks_find_32 : decode prog_3_method_2_code 32 = .ok (.iload_n 3, 1) := by decide +kernel
theorem d_Checks_find_33 : decode prog_3_method_2_code 33 = .ok (.if_icmp .ne 18, 3) := by decide +kernel
theorem d_Checks_find_36 : decode prog_3_method_2_code 36 = .ok (.aload_n 0, 1) := by decide +kernel
theorem d_Checks_find_37 : decode prog_3_method_2_code 37 = .ok (.getfield 15, 3) := by decide +kernel
theorem d_Checks_find_40 : decode prog_3_method_2_code 40 = .ok (.iload 5, 2) := by decide +kernel
theorem d_Checks_find_42 : decode prog_3_method_2_code 42 = .ok (.iaload, 1) := by decide +kernel
theorem d_Checks_find_43 : decode prog_3_method_2_code 43 = .ok (.iload 4, 2) := by decide +kernel
theorem d_Checks_find_45 : decode prog_3_method_2_code 45 = .ok (.if_icmp .ne 6, 3) := by decide +kernel
theorem d_Checks_find_48 : decode prog_3_method_2_code 48 = .ok (.iload 5, 2) := by decide +kernel
theorem d_Checks_find_50 : decode prog_3_method_2_code 50 = .ok (.ireturn, 1) := by decide +kernel
theorem d_Checks_find_51 : decode prog_3_method_2_code 51 = .ok (.iinc 5 1, 3) := by decide +kernel
theorem d_Checks_find_54 : decode prog_3_method_2_code 54 = .ok (.goto (-38), 3) := by decide +kernel
theorem d_Checks_hasRoomFor_6 : decode prog_3_method_3_code 6 = .ok (.bipush 40, 2) := by decide +kernel
theorem d_Checks_hasRoomFor_8 : decode prog_3_method_3_code 8 = .ok (.if_icmp .ge 7, 3) := by decide +kernel
theorem d_Checks_hasRoomFor_15 : decode prog_3_method_3_code 15 = .ok (.iconst 0, 1) := by decide +kernel
theorem d_Checks_hasRoomFor_16 : decode prog_3_method_3_code 16 = .ok (.ireturn, 1) := by decide +kernel
theorem d_Checks_hasRoomFor_11 : decode prog_3_method_3_code 11 = .ok (.iconst 1, 1) := by decide +kernel
theorem d_Checks_hasRoomFor_12 : decode prog_3_method_3_code 12 = .ok (.goto 4, 3) := by decide +kernel
theorem d_O_check_24 : decode prog_1_method_28_code 24 = .ok (.ifCond .ne 6, 3) := by decide +kernel
theorem d_O_check_27 : decode prog_1_method_28_code 27 = .ok (.bipush (-4), 2) := by decide +kernel
theorem d_O_check_29 : decode prog_1_method_28_code 29 = .ok (.ireturn, 1) := by decide +kernel
theorem d_O_check_30 : decode prog_1_method_28_code 30 = .ok (.aload_n 0, 1) := by decide +kernel
theorem d_O_check_31 : decode prog_1_method_28_code 31 = .ok (.getfield 67, 3) := by decide +kernel
theorem d_O_check_34 : decode prog_1_method_28_code 34 = .ok (.iload_n 1, 1) := by decide +kernel
theorem d_O_check_35 : decode prog_1_method_28_code 35 = .ok (.iload_n 2, 1) := by decide +kernel
theorem d_O_check_36 : decode prog_1_method_28_code 36 = .ok (.iload_n 3, 1) := by decide +kernel
theorem d_O_check_37 : decode prog_1_method_28_code 37 = .ok (.invokevirtual 275, 3) := by decide +kernel
theorem d_Checks_note_0 : decode prog_3_method_4_code 0 = .ok (.aload_n 0, 1) := by decide +kernel
theorem d_Checks_note_1 : decode prog_3_method_4_code 1 = .ok (.iload_n 1, 1) := by decide +kernel
theorem d_Checks_note_2 : decode prog_3_method_4_code 2 = .ok (.iload_n 2, 1) := by decide +kernel
theorem d_Checks_note_3 : decode prog_3_method_4_code 3 = .ok (.invokevirtual 35, 3) := by decide +kernel
theorem d_Checks_note_6 : decode prog_3_method_4_code 6 = .ok (.istore 4, 2) := by decide +kernel
theorem d_Checks_note_8 : decode prog_3_method_4_code 8 = .ok (.iload 4, 2) := by decide +kernel
theorem d_Checks_note_10 : decode prog_3_method_4_code 10 = .ok (.bipush 40, 2) := by decide +kernel
theorem d_Checks_note_12 : decode prog_3_method_4_code 12 = .ok (.if_icmp .lt 4, 3) := by decide +kernel
theorem d_Checks_note_16 : decode prog_3_method_4_code 16 = .ok (.aload_n 0, 1) := by decide +kernel
theorem d_Checks_note_17 : decode prog_3_method_4_code 17 = .ok (.getfield 9, 3) := by decide +kernel
theorem d_Checks_note_20 : decode prog_3_method_4_code 20 = .ok (.iload 4, 2) := by decide +kernel
theorem d_Checks_note_22 : decode prog_3_method_4_code 22 = .ok (.iload_n 1, 1) := by decide +kernel
theorem d_Checks_note_23 : decode prog_3_method_4_code 23 = .ok (.iload_n 2, 1) := by decide +kernel
theorem d_Checks_note_24 : decode prog_3_method_4_code 24 = .ok (.invokestatic 22, 3) := by decide +kernel
theorem d_Checks_note_27 : decode prog_3_method_4_code 27 = .ok (.iastore, 1) := by decide +kernel
theorem d_Checks_note_28 : decode prog_3_method_4_code 28 = .ok (.aload_n 0, 1) := by decide +kernel
theorem d_Checks_note_29 : decode prog_3_method_4_code 29 = .ok (.getfield 15, 3) := by decide +kernel
theorem d_Checks_note_32 : decode prog_3_method_4_code 32 = .ok (.iload 4, 2) := by decide +kernel
theorem d_Checks_note_34 : decode prog_3_method_4_code 34 = .ok (.iload_n 1, 1) := by decide +kernel
theorem d_Checks_note_35 : decode prog_3_method_4_code 35 = .ok (.iload_n 2, 1) := by decide +kernel
theorem d_Checks_note_36 : decode prog_3_method_4_code 36 = .ok (.invokestatic 28, 3) := by decide +kernel
theorem d_Checks_note_39 : decode prog_3_method_4_code 39 = .ok (.iastore, 1) := by decide +kernel
theorem d_Checks_note_40 : decode prog_3_method_4_code 40 = .ok (.aload_n 0, 1) := by decide +kernel
theorem d_Checks_note_41 : decode prog_3_method_4_code 41 = .ok (.getfield 18, 3) := by decide +kernel
theorem d_Checks_note_44 : decode prog_3_method_4_code 44 = .ok (.iload 4, 2) := by decide +kernel
theorem d_Checks_note_46 : decode prog_3_method_4_code 46 = .ok (.iload_n 3, 1) := by decide +kernel
theorem d_Checks_note_47 : decode prog_3_method_4_code 47 = .ok (.bastore, 1) := by decide +kernel
theorem d_Checks_note_48 : decode prog_3_method_4_code 48 = .ok (.aload_n 0, 1) := by decide +kernel
theorem d_Checks_note_49 : decode prog_3_method_4_code 49 = .ok (.aload_n 0, 1) := by decide +kernel
theorem d_Checks_note_50 : decode prog_3_method_4_code 50 = .ok (.getfield 31, 3) := by decide +kernel
theorem d_Checks_note_53 : decode prog_3_method_4_code 53 = .ok (.iload 4, 2) := by decide +kernel
theorem d_Checks_note_55 : decode prog_3_method_4_code 55 = .ok (.iconst 1, 1) := by decide +kernel
theorem d_Checks_note_56 : decode prog_3_method_4_code 56 = .ok (.iadd, 1) := by decide +kernel
theorem d_Checks_note_57 : decode prog_3_method_4_code 57 = .ok (.invokestatic 28, 3) := by decide +kernel
theorem d_Checks_note_60 : decode prog_3_method_4_code 60 = .ok (.putfield 31, 3) := by decide +kernel
theorem d_Checks_note_63 : decode prog_3_method_4_code 63 = .ok (.return_, 1) := by decide +kernel
theorem d_Checks_note_15 : decode prog_3_method_4_code 15 = .ok (.return_, 1) := by decide +kernel
theorem d_O_check_40 : decode prog_1_method_28_code 40 = .ok (.aload_n 0, 1) := by decide +kernel
theorem d_O_check_41 : decode prog_1_method_28_code 41 = .ok (.getfield 67, 3) := by decide +kernel
theorem d_O_check_44 : decode prog_1_method_28_code 44 = .ok (.getfield 279, 3) := by decide +kernel
theorem d_O_check_47 : decode prog_1_method_28_code 47 = .ok (.ireturn, 1) := by decide +kernel
theorem d_O_checked_0 : decode prog_1_method_29_code 0 = .ok (.iload_n 1, 1) := by decide +kernel
theorem d_O_checked_1 : decode prog_1_method_29_code 1 = .ok (.tableswitch 73 0 3 #[31, 39, 47, 60], 31) := by decide +kernel
theorem d_O_checked_32 : decode prog_1_method_29_code 32 = .ok (.aload_n 0, 1) := by decide +kernel
theorem d_O_checked_33 : decode prog_1_method_29_code 33 = .ok (.getfield 67, 3) := by decide +kernel
theorem d_O_checked_36 : decode prog_1_method_29_code 36 = .ok (.getfield 279, 3) := by decide +kernel
theorem d_O_checked_39 : decode prog_1_method_29_code 39 = .ok (.ireturn, 1) := by decide +kernel
theorem d_O_checked_40 : decode prog_1_method_29_code 40 = .ok (.aload_n 0, 1) := by decide +kernel
theorem d_O_checked_41 : decode prog_1_method_29_code 41 = .ok (.getfield 67, 3) := by decide +kernel
theorem d_O_checked_44 : decode prog_1_method_29_code 44 = .ok (.invokevirtual 280, 3) := by decide +kernel
theorem d_Checks_countOne_0 : decode prog_3_method_5_code 0 = .ok (.iconst 0, 1) := by decide +kernel
theorem d_Checks_countOne_1 : decode prog_3_method_5_code 1 = .ok (.istore_n 1, 1) := by decide +kernel
theorem d_Checks_countOne_2 : decode prog_3_method_5_code 2 = .ok (.iconst 0, 1) := by decide +kernel
theorem d_Checks_countOne_3 : decode prog_3_method_5_code 3 = .ok (.istore_n 2, 1) := by decide +kernel
theorem d_Checks_countOne_4 : decode prog_3_method_5_code 4 = .ok (.iload_n 2, 1) := by decide +kernel
theorem d_Checks_countOne_5 : decode prog_3_method_5_code 5 = .ok (.aload_n 0, 1) := by decide +kernel
theorem d_Checks_countOne_6 : decode prog_3_method_5_code 6 = .ok (.getfield 31, 3) := by decide +kernel
theorem d_Checks_countOne_9 : decode prog_3_method_5_code 9 = .ok (.if_icmp .ge 21, 3) := by decide +kernel
theorem d_Checks_countOne_30 : decode prog_3_method_5_code 30 = .ok (.iload_n 1, 1) := by decide +kernel
theorem d_Checks_countOne_31 : decode prog_3_method_5_code 31 = .ok (.ireturn, 1) := by decide +kernel
theorem d_Checks_countOne_12 : decode prog_3_method_5_code 12 = .ok (.aload_n 0, 1) := by decide +kernel
theorem d_Checks_countOne_13 : decode prog_3_method_5_code 13 = .ok (.getfield 18, 3) := by decide +kernel
theorem d_Checks_countOne_16 : decode prog_3_method_5_code 16 = .ok (.iload_n 2, 1) := by decide +kernel
theorem d_Checks_countOne_17 : decode prog_3_method_5_code 17 = .ok (.baload, 1) := by decide +kernel
theorem d_Checks_countOne_18 : decode prog_3_method_5_code 18 = .ok (.ifCond .eq 6, 3) := by decide +kernel
theorem d_Checks_countOne_21 : decode prog_3_method_5_code 21 = .ok (.iinc 1 1, 3) := by decide +kernel
theorem d_Checks_countOne_24 : decode prog_3_method_5_code 24 = .ok (.iinc 2 1, 3) := by decide +kernel
theorem d_Checks_countOne_27 : decode prog_3_method_5_code 27 = .ok (.goto (-23), 3) := by decide +kernel
theorem d_O_checked_47 : decode prog_1_method_29_code 47 = .ok (.ireturn, 1) := by decide +kernel
theorem d_O_checked_48 : decode prog_1_method_29_code 48 = .ok (.aload_n 0, 1) := by decide +kernel
theorem d_O_checked_49 : decode prog_1_method_29_code 49 = .ok (.getfield 67, 3) := by decide +kernel
theorem d_O_checked_52 : decode prog_1_method_29_code 52 = .ok (.aload_n 0, 1) := by decide +kernel
theorem d_O_checked_53 : decode prog_1_method_29_code 53 = .ok (.getfield 19, 3) := by decide +kernel
theorem d_O_checked_56 : decode prog_1_method_29_code 56 = .ok (.iconst 0, 1) := by decide +kernel
theorem d_O_checked_57 : decode prog_1_method_29_code 57 = .ok (.invokevirtual 283, 3) := by decide +kernel
theorem d_Checks_countLinks_0 : decode prog_3_method_6_code 0 = .ok (.iconst 0, 1) := by decide +kernel
theorem d_Checks_countLinks_1 : decode prog_3_method_6_code 1 = .ok (.istore_n 3, 1) := by decide +kernel
theorem d_Checks_countLinks_2 : decode prog_3_method_6_code 2 = .ok (.iconst 0, 1) := by decide +kernel
theorem d_Checks_countLinks_3 : decode prog_3_method_6_code 3 = .ok (.istore 4, 2) := by decide +kernel
theorem d_Checks_countLinks_5 : decode prog_3_method_6_code 5 = .ok (.iload 4, 2) := by decide +kernel
theorem d_Checks_countLinks_7 : decode prog_3_method_6_code 7 = .ok (.aload_n 0, 1) := by decide +kernel
theorem d_Checks_countLinks_8 : decode prog_3_method_6_code 8 = .ok (.getfield 31, 3) := by decide +kernel
theorem d_Checks_countLinks_11 : decode prog_3_method_6_code 11 = .ok (.if_icmp .ge 47, 3) := by decide +kernel
theorem d_Checks_countLinks_58 : decode prog_3_method_6_code 58 = .ok (.iload_n 3, 1) := by decide +kernel
theorem d_Checks_countLinks_59 : decode prog_3_method_6_code 59 = .ok (.ireturn, 1) := by decide +kernel
theorem d_Checks_countLinks_14 : decode prog_3_method_6_code 14 = .ok (.iload_n 2, 1) := by decide +kernel
theorem d_Checks_countLinks_15 : decode prog_3_method_6_code 15 = .ok (.ifCond .eq 13, 3) := by decide +kernel
theorem d_Checks_countLinks_18 : decode prog_3_method_6_code 18 = .ok (.aload_n 0, 1) := by decide +kernel
theorem d_Checks_countLinks_19 : decode prog_3_method_6_code 19 = .ok (.getfield 18, 3) := by decide +kernel
theorem d_Checks_countLinks_22 : decode prog_3_method_6_code 22 = .ok (.iload 4, 2) := by decide +kernel
theorem d_Checks_countLinks_24 : decode prog_3_method_6_code 24 = .ok (.baload, 1) := by decide +kernel
theorem d_Checks_countLinks_25 : decode prog_3_method_6_code 25 = .ok (.ifCond .ne 27, 3) := by decide +kernel
theorem d_Checks_countLinks_28 : decode prog_3_method_6_code 28 = .ok (.aload_n 1, 1) := by decide +kernel
theorem d_Checks_countLinks_29 : decode prog_3_method_6_code 29 = .ok (.aload_n 0, 1) := by decide +kernel
theorem d_Checks_countLinks_30 : decode prog_3_method_6_code 30 = .ok (.getfield 9, 3) := by decide +kernel
theorem d_Checks_countLinks_33 : decode prog_3_method_6_code 33 = .ok (.iload 4, 2) := by decide +kernel
theorem d_Checks_countLinks_35 : decode prog_3_method_6_code 35 = .ok (.iaload, 1) := by decide +kernel
theorem d_Checks_countLinks_36 : decode prog_3_method_6_code 36 = .ok (.aload_n 0, 1) := by decide +kernel
theorem d_Checks_countLinks_37 : decode prog_3_method_6_code 37 = .ok (.getfield 15, 3) := by decide +kernel
theorem d_Checks_countLinks_40 : decode prog_3_method_6_code 40 = .ok (.iload 4, 2) := by decide +kernel
theorem d_Checks_countLinks_42 : decode prog_3_method_6_code 42 = .ok (.iaload, 1) := by decide +kernel
theorem d_Checks_countLinks_43 : decode prog_3_method_6_code 43 = .ok (.invokevirtual 38, 3) := by decide +kernel
theorem d_Checks_countLinks_46 : decode prog_3_method_6_code 46 = .ok (.ifCond .eq 6, 3) := by decide +kernel
theorem d_Checks_countLinks_49 : decode prog_3_method_6_code 49 = .ok (.iinc 3 1, 3) := by decide +kernel
theorem d_Checks_countLinks_52 : decode prog_3_method_6_code 52 = .ok (.iinc 4 1, 3) := by decide +kernel
theorem d_Checks_countLinks_55 : decode prog_3_method_6_code 55 = .ok (.goto (-50), 3) := by decide +kernel
theorem d_O_checked_60 : decode prog_1_method_29_code 60 = .ok (.ireturn, 1) := by decide +kernel
theorem d_O_checked_61 : decode prog_1_method_29_code 61 = .ok (.aload_n 0, 1) := by decide +kernel
theorem d_O_checked_62 : decode prog_1_method_29_code 62 = .ok (.getfield 67, 3) := by decide +kernel
theorem d_O_checked_65 : decode prog_1_method_29_code 65 = .ok (.aload_n 0, 1) := by decide +kernel
theorem d_O_checked_66 : decode prog_1_method_29_code 66 = .ok (.getfield 19, 3) := by decide +kernel
theorem d_O_checked_69 : decode prog_1_method_29_code 69 = .ok (.iconst 1, 1) := by decide +kernel
theorem d_O_checked_70 : decode prog_1_method_29_code 70 = .ok (.invokevirtual 283, 3) := by decide +kernel
theorem d_O_checked_73 : decode prog_1_method_29_code 73 = .ok (.ireturn, 1) := by decide +kernel
theorem d_O_checked_74 : decode prog_1_method_29_code 74 = .ok (.bipush (-2), 2) := by decide +kernel
theorem d_O_checked_76 : decode prog_1_method_29_code 76 = .ok (.ireturn, 1) := by decide +kernel
theorem d_O_bound_0 : decode prog_1_method_30_code 0 = .ok (.iload_n 1, 1) := by decide +kernel
theorem d_O_bound_1 : decode prog_1_method_30_code 1 = .ok (.iconst 2, 1) := by decide +kernel
theorem d_O_bound_2 : decode prog_1_method_30_code 2 = .ok (.invokestatic 88, 3) := by decide +kernel
theorem d_O_bound_5 : decode prog_1_method_30_code 5 = .ok (.ifCond .ne 6, 3) := by decide +kernel
theorem d_O_bound_8 : decode prog_1_method_30_code 8 = .ok (.bipush (-2), 2) := by decide +kernel
theorem d_O_bound_10 : decode prog_1_method_30_code 10 = .ok (.ireturn, 1) := by decide +kernel
theorem d_O_bound_11 : decode prog_1_method_30_code 11 = .ok (.aload_n 0, 1) := by decide +kernel
theorem d_O_bound_12 : decode prog_1_method_30_code 12 = .ok (.getfield 19, 3) := by decide +kernel
theorem d_O_bound_15 : decode prog_1_method_30_code 15 = .ok (.invokevirtual 224, 3) := by decide +kernel
theorem d_O_bound_18 : decode prog_1_method_30_code 18 = .ok (.istore_n 2, 1) := by decide +kernel
theorem d_O_bound_19 : decode prog_1_method_30_code 19 = .ok (.iload_n 2, 1) := by decide +kernel
theorem d_O_bound_20 : decode prog_1_method_30_code 20 = .ok (.ifCond .ne 6, 3) := by decide +kernel
theorem d_O_bound_23 : decode prog_1_method_30_code 23 = .ok (.bipush (-3), 2) := by decide +kernel
theorem d_O_bound_25 : decode prog_1_method_30_code 25 = .ok (.ireturn, 1) := by decide +kernel
theorem d_O_bound_26 : decode prog_1_method_30_code 26 = .ok (.iload_n 2, 1) := by decide +kernel
theorem d_O_bound_27 : decode prog_1_method_30_code 27 = .ok (.bipush 60, 2) := by decide +kernel
theorem d_O_bound_29 : decode prog_1_method_30_code 29 = .ok (.if_icmp .le 6, 3) := by decide +kernel
theorem d_O_bound_35 : decode prog_1_method_30_code 35 = .ok (.aload_n 0, 1) := by decide +kernel
theorem d_O_bound_36 : decode prog_1_method_30_code 36 = .ok (.getfield 67, 3) := by decide +kernel
theorem d_O_bound_39 : decode prog_1_method_30_code 39 = .ok (.aload_n 0, 1) := by decide +kernel
theorem d_O_bound_40 : decode prog_1_method_30_code 40 = .ok (.getfield 19, 3) := by decide +kernel
theorem d_O_bound_43 : decode prog_1_method_30_code 43 = .ok (.iconst 0, 1) := by decide +kernel
theorem d_O_bound_44 : decode prog_1_method_30_code 44 = .ok (.invokevirtual 283, 3) := by decide +kernel
theorem d_O_bound_47 : decode prog_1_method_30_code 47 = .ok (.istore_n 3, 1) := by decide +kernel
theorem d_O_bound_48 : decode prog_1_method_30_code 48 = .ok (.aload_n 0, 1) := by decide +kernel
theorem d_O_bound_49 : decode prog_1_method_30_code 49 = .ok (.getfield 67, 3) := by decide +kernel
theorem d_O_bound_52 : decode prog_1_method_30_code 52 = .ok (.aload_n 0, 1) := by decide +kernel
theorem d_O_bound_53 : decode prog_1_method_30_code 53 = .ok (.getfield 19, 3) := by decide +kernel
theorem d_O_bound_56 : decode prog_1_method_30_code 56 = .ok (.iconst 1, 1) := by decide +kernel
theorem d_O_bound_57 : decode prog_1_method_30_code 57 = .ok (.invokevirtual 283, 3) := by decide +kernel
theorem d_O_bound_60 : decode prog_1_method_30_code 60 = .ok (.istore 4, 2) := by decide +kernel
theorem d_O_bound_62 : decode prog_1_method_30_code 62 = .ok (.iload_n 1, 1) := by decide +kernel
theorem d_O_bound_63 : decode prog_1_method_30_code 63 = .ok (.ifCond .ne 13, 3) := by decide +kernel
theorem d_O_bound_66 : decode prog_1_method_30_code 66 = .ok (.iload_n 2, 1) := by decide +kernel
theorem d_O_bound_67 : decode prog_1_method_30_code 67 = .ok (.iload_n 3, 1) := by decide +kernel
theorem d_O_bound_68 : decode prog_1_method_30_code 68 = .ok (.iload 4, 2) := by decide +kernel
theorem d_O_bound_70 : decode prog_1_method_30_code 70 = .ok (.invokestatic 286, 3) := by decide +kernel
theorem d_Checks_leastFalse_0 : decode prog_3_method_9_code 0 = .ok (.iconst 0, 1) := by decide +kernel
theorem d_Checks_leastFalse_1 : decode prog_3_method_9_code 1 = .ok (.istore_n 3, 1) := by decide +kernel
theorem d_Checks_leastFalse_2 : decode prog_3_method_9_code 2 = .ok (.iload_n 3, 1) := by decide +kernel
theorem d_Checks_leastFalse_3 : decode prog_3_method_9_code 3 = .ok (.iload_n 0, 1) := by decide +kernel
theorem d_Checks_leastFalse_4 : decode prog_3_method_9_code 4 = .ok (.if_icmp .ge 19, 3) := by decide +kernel
theorem d_Checks_leastFalse_23 : decode prog_3_method_9_code 23 = .ok (.iload_n 3, 1) := by decide +kernel
theorem d_Checks_leastFalse_24 : decode prog_3_method_9_code 24 = .ok (.ireturn, 1) := by decide +kernel
theorem d_Checks_leastFalse_7 : decode prog_3_method_9_code 7 = .ok (.iload_n 0, 1) := by decide +kernel
theorem d_Checks_leastFalse_8 : decode prog_3_method_9_code 8 = .ok (.iload_n 1, 1) := by decide +kernel
theorem d_Checks_leastFalse_9 : decode prog_3_method_9_code 9 = .ok (.iload_n 2, 1) := by decide +kernel
theorem d_Checks_leastFalse_10 : decode prog_3_method_9_code 10 = .ok (.iload_n 3, 1) := by decide +kernel
theorem d_Checks_leastFalse_11 : decode prog_3_method_9_code 11 = .ok (.invokestatic 57, 3) := by decide +kernel
theorem d_Checks_isLikely_0 : decode prog_3_method_11_code 0 = .ok (.lconst 0, 1) := by decide +kernel
theorem d_Checks_isLikely_1 : decode prog_3_method_11_code 1 = .ok (.lstore 4, 2) := by decide +kernel
theorem d_Checks_isLikely_3 : decode prog_3_method_11_code 3 = .ok (.lconst 0, 1) := by decide +kernel
theorem d_Checks_isLikely_4 : decode prog_3_method_11_code 4 = .ok (.lstore 6, 2) := by decide +kernel
theorem d_Checks_isLikely_6 : decode prog_3_method_11_code 6 = .ok (.iconst 0, 1) := by decide +kernel
theorem d_Checks_isLikely_7 : decode prog_3_method_11_code 7 = .ok (.istore 8, 2) := by decide +kernel
theorem d_Checks_isLikely_9 : decode prog_3_method_11_code 9 = .ok (.iload 8, 2) := by decide +kernel
theorem d_Checks_isLikely_11 : decode prog_3_method_11_code 11 = .ok (.iload_n 1, 1) := by decide +kernel
theorem d_Checks_isLikely_12 : decode prog_3_method_11_code 12 = .ok (.if_icmp .gt 54, 3) := by decide +kernel
theorem d_Checks_isLikely_66 : decode prog_3_method_11_code 66 = .ok (.iload_n 0, 1) := by decide +kernel
theorem d_Checks_isLikely_67 : decode prog_3_method_11_code 67 = .ok (.iload_n 1, 1) := by decide +kernel
theorem d_Checks_isLikely_68 : decode prog_3_method_11_code 68 = .ok (.invokestatic 61, 3) := by decide +kernel
theorem d_Checks_waysToChoose_0 : decode prog_3_method_12_code 0 = .ok (.iload_n 1, 1) := by decide +kernel
theorem d_Checks_waysToChoose_1 : decode prog_3_method_12_code 1 = .ok (.iload_n 0, 1) := by decide +kernel
theorem d_Checks_waysToChoose_2 : decode prog_3_method_12_code 2 = .ok (.if_icmp .le 5, 3) := by decide +kernel
theorem d_Checks_waysToChoose_7 : decode prog_3_method_12_code 7 = .ok (.iload_n 1, 1) := by decide +kernel
theorem d_Checks_waysToChoose_8 : decode prog_3_method_12_code 8 = .ok (.iload_n 0, 1) := by decide +kernel
theorem d_Checks_waysToChoose_9 : decode prog_3_method_12_code 9 = .ok (.iload_n 1, 1) := by decide +kernel
theorem d_Checks_waysToChoose_10 : decode prog_3_method_12_code 10 = .ok (.isub, 1) := by decide +kernel
theorem d_Checks_waysToChoose_11 : decode prog_3_method_12_code 11 = .ok (.invokestatic 22, 3) := by decide +kernel
theorem d_Checks_waysToChoose_14 : decode prog_3_method_12_code 14 = .ok (.istore_n 2, 1) := by decide +kernel
theorem d_Checks_waysToChoose_15 : decode prog_3_method_12_code 15 = .ok (.lconst 1, 1) := by decide +kernel
theorem d_Checks_waysToChoose_16 : decode prog_3_method_12_code 16 = .ok (.lstore_n 3, 1) := by decide +kernel
theorem d_Checks_waysToChoose_17 : decode prog_3_method_12_code 17 = .ok (.iconst 1, 1) := by decide +kernel
theorem d_Checks_waysToChoose_18 : decode prog_3_method_12_code 18 = .ok (.istore 5, 2) := by decide +kernel
theorem d_Checks_waysToChoose_5 : decode prog_3_method_12_code 5 = .ok (.lconst 0, 1) := by decide +kernel
theorem d_Checks_waysToChoose_6 : decode prog_3_method_12_code 6 = .ok (.lreturn, 1) := by decide +kernel
theorem d_Checks_waysToChoose_20 : decode prog_3_method_12_code 20 = .ok (.iload 5, 2) := by decide +kernel
theorem d_Checks_waysToChoose_22 : decode prog_3_method_12_code 22 = .ok (.iload_n 2, 1) := by decide +kernel
theorem d_Checks_waysToChoose_23 : decode prog_3_method_12_code 23 = .ok (.if_icmp .gt 23, 3) := by decide +kernel
theorem d_Checks_waysToChoose_46 : decode prog_3_method_12_code 46 = .ok (.lload_n 3, 1) := by decide +kernel
theorem d_Checks_waysToChoose_47 : decode prog_3_method_12_code 47 = .ok (.lreturn, 1) := by decide +kernel
theorem d_Checks_waysToChoose_26 : decode prog_3_method_12_code 26 = .ok (.lload_n 3, 1) := by decide +kernel
theorem d_Checks_waysToChoose_27 : decode prog_3_method_12_code 27 = .ok (.iload_n 0, 1) := by decide +kernel
theorem d_Checks_waysToChoose_28 : decode prog_3_method_12_code 28 = .ok (.iload_n 2, 1) := by decide +kernel
theorem d_Checks_waysToChoose_29 : decode prog_3_method_12_code 29 = .ok (.isub, 1) := by decide +kernel
theorem d_Checks_waysToChoose_30 : decode prog_3_method_12_code 30 = .ok (.iload 5, 2) := by decide +kernel
theorem d_Checks_waysToChoose_32 : decode prog_3_method_12_code 32 = .ok (.iadd, 1) := by decide +kernel
theorem d_Checks_waysToChoose_33 : decode prog_3_method_12_code 33 = .ok (.i2l, 1) := by decide +kernel
theorem d_Checks_waysToChoose_34 : decode prog_3_method_12_code 34 = .ok (.lmul, 1) := by decide +kernel
theorem d_Checks_waysToChoose_35 : decode prog_3_method_12_code 35 = .ok (.iload 5, 2) := by decide +kernel
theorem d_Checks_waysToChoose_37 : decode prog_3_method_12_code 37 = .ok (.i2l, 1) := by decide +kernel
theorem d_Checks_waysToChoose_38 : decode prog_3_method_12_code 38 = .ok (.ldiv, 1) := by decide +kernel
theorem d_Checks_waysToChoose_39 : decode prog_3_method_12_code 39 = .ok (.lstore_n 3, 1) := by decide +kernel
theorem d_Checks_waysToChoose_40 : decode prog_3_method_12_code 40 = .ok (.iinc 5 1, 3) := by decide +kernel
theorem d_Checks_waysToChoose_43 : decode prog_3_method_12_code 43 = .ok (.goto (-23), 3) := by decide +kernel
theorem d_Checks_isLikely_71 : decode prog_3_method_11_code 71 = .ok (.lstore 8, 2) := by decide +kernel
theorem d_Checks_isLikely_73 : decode prog_3_method_11_code 73 = .ok (.ldc2_w 65, 3) := by decide +kernel
theorem d_Checks_isLikely_76 : decode prog_3_method_11_code 76 = .ok (.lload 4, 2) := by decide +kernel
theorem d_Checks_isLikely_78 : decode prog_3_method_11_code 78 = .ok (.lmul, 1) := by decide +kernel
theorem d_Checks_isLikely_79 : decode prog_3_method_11_code 79 = .ok (.lload 8, 2) := by decide +kernel
theorem d_Checks_isLikely_81 : decode prog_3_method_11_code 81 = .ok (.lcmp, 1) := by decide +kernel
theorem d_Checks_isLikely_82 : decode prog_3_method_11_code 82 = .ok (.ifCond .lt 19, 3) := by decide +kernel
theorem d_Checks_isLikely_101 : decode prog_3_method_11_code 101 = .ok (.iconst 0, 1) := by decide +kernel
theorem d_Checks_isLikely_102 : decode prog_3_method_11_code 102 = .ok (.ireturn, 1) := by decide +kernel
theorem d_Checks_isLikely_85 : decode prog_3_method_11_code 85 = .ok (.ldc2_w 65, 3) := by decide +kernel
theorem d_Checks_isLikely_88 : decode prog_3_method_11_code 88 = .ok (.lload 6, 2) := by decide +kernel
theorem d_Checks_isLikely_90 : decode prog_3_method_11_code 90 = .ok (.lmul, 1) := by decide +kernel
theorem d_Checks_isLikely_91 : decode prog_3_method_11_code 91 = .ok (.lload 8, 2) := by decide +kernel
theorem d_Checks_isLikely_93 : decode prog_3_method_11_code 93 = .ok (.lcmp, 1) := by decide +kernel
theorem d_Checks_isLikely_94 : decode prog_3_method_11_code 94 = .ok (.ifCond .lt 7, 3) := by decide +kernel
theorem d_Checks_isLikely_97 : decode prog_3_method_11_code 97 = .ok (.iconst 1, 1) := by decide +kernel
theorem d_Checks_isLikely_98 : decode prog_3_method_11_code 98 = .ok (.goto 4, 3) := by decide +kernel
theorem d_Checks_isLikely_15 : decode prog_3_method_11_code 15 = .ok (.iload_n 3, 1) := by decide +kernel
theorem d_Checks_isLikely_16 : decode prog_3_method_11_code 16 = .ok (.iload 8, 2) := by decide +kernel
theorem d_Checks_isLikely_18 : decode prog_3_method_11_code 18 = .ok (.invokestatic 61, 3) := by decide +kernel
theorem d_Checks_isLikely_21 : decode prog_3_method_11_code 21 = .ok (.iload_n 0, 1) := by decide +kernel
theorem d_Checks_isLikely_22 : decode prog_3_method_11_code 22 = .ok (.iload_n 3, 1) := by decide +kernel
theorem d_Checks_isLikely_23 : decode prog_3_method_11_code 23 = .ok (.isub, 1) := by decide +kernel
theorem d_Checks_isLikely_24 : decode prog_3_method_11_code 24 = .ok (.iload_n 1, 1) := by decide +kernel
theorem d_Checks_isLikely_25 : decode prog_3_method_11_code 25 = .ok (.iload 8, 2) := by decide +kernel
theorem d_Checks_isLikely_27 : decode prog_3_method_11_code 27 = .ok (.isub, 1) := by decide +kernel
theorem d_Checks_isLikely_28 : decode prog_3_method_11_code 28 = .ok (.invokestatic 61, 3) := by decide +kernel
theorem d_Checks_isLikely_31 : decode prog_3_method_11_code 31 = .ok (.lmul, 1) := by decide +kernel
theorem d_Checks_isLikely_32 : decode prog_3_method_11_code 32 = .ok (.lstore 9, 2) := by decide +kernel
theorem d_Checks_isLikely_34 : decode prog_3_method_11_code 34 = .ok (.iload 8, 2) := by decide +kernel
theorem d_Checks_isLikely_36 : decode prog_3_method_11_code 36 = .ok (.iload_n 2, 1) := by decide +kernel
theorem d_Checks_isLikely_37 : decode prog_3_method_11_code 37 = .ok (.if_icmp .gt 10, 3) := by decide +kernel
theorem d_Checks_isLikely_40 : decode prog_3_method_11_code 40 = .ok (.lload 4, 2) := by decide +kernel
theorem d_Checks_isLikely_42 : decode prog_3_method_11_code 42 = .ok (.lload 9, 2) := by decide +kernel
theorem d_Checks_isLikely_44 : decode prog_3_method_11_code 44 = .ok (.ladd, 1) := by decide +kernel
theorem d_Checks_isLikely_45 : decode prog_3_method_11_code 45 = .ok (.lstore 4, 2) := by decide +kernel
theorem d_Checks_isLikely_47 : decode prog_3_method_11_code 47 = .ok (.iload 8, 2) := by decide +kernel
theorem d_Checks_isLikely_49 : decode prog_3_method_11_code 49 = .ok (.iload_n 2, 1) := by decide +kernel
theorem d_Checks_isLikely_50 : decode prog_3_method_11_code 50 = .ok (.if_icmp .lt 10, 3) := by decide +kernel
theorem d_Checks_isLikely_53 : decode prog_3_method_11_code 53 = .ok (.lload 6, 2) := by decide +kernel
theorem d_Checks_isLikely_55 : decode prog_3_method_11_code 55 = .ok (.lload 9, 2) := by decide +kernel
theorem d_Checks_isLikely_57 : decode prog_3_method_11_code 57 = .ok (.ladd, 1) := by decide +kernel
theorem d_Checks_isLikely_58 : decode prog_3_method_11_code 58 = .ok (.lstore 6, 2) := by decide +kernel
theorem d_Checks_isLikely_60 : decode prog_3_method_11_code 60 = .ok (.iinc 8 1, 3) := by decide +kernel
theorem d_Checks_isLikely_63 : decode prog_3_method_11_code 63 = .ok (.goto (-54), 3) := by decide +kernel
theorem d_Checks_leastFalse_14 : decode prog_3_method_9_code 14 = .ok (.ifCond .ne 9, 3) := by decide +kernel
theorem d_Checks_leastFalse_17 : decode prog_3_method_9_code 17 = .ok (.iinc 3 1, 3) := by decide +kernel
theorem d_Checks_leastFalse_20 : decode prog_3_method_9_code 20 = .ok (.goto (-18), 3) := by decide +kernel
theorem d_O_bound_73 : decode prog_1_method_30_code 73 = .ok (.goto 10, 3) := by decide +kernel
theorem d_O_bound_83 : decode prog_1_method_30_code 83 = .ok (.ireturn, 1) := by decide +kernel
theorem d_O_bound_76 : decode prog_1_method_30_code 76 = .ok (.iload_n 2, 1) := by decide +kernel
theorem d_O_bound_77 : decode prog_1_method_30_code 77 = .ok (.iload_n 3, 1) := by decide +kernel
theorem d_O_bound_78 : decode prog_1_method_30_code 78 = .ok (.iload 4, 2) := by decide +kernel
theorem d_O_bound_80 : decode prog_1_method_30_code 80 = .ok (.invokestatic 289, 3) := by decide +kernel
theorem d_Checks_mostFalse_0 : decode prog_3_method_10_code 0 = .ok (.iload_n 0, 1) := by decide +kernel
theorem d_Checks_mostFalse_1 : decode prog_3_method_10_code 1 = .ok (.istore_n 3, 1) := by decide +kernel
theorem d_Checks_mostFalse_2 : decode prog_3_method_10_code 2 = .ok (.iload_n 3, 1) := by decide +kernel
theorem d_Checks_mostFalse_3 : decode prog_3_method_10_code 3 = .ok (.ifCond .le 19, 3) := by decide +kernel
theorem d_Checks_mostFalse_22 : decode prog_3_method_10_code 22 = .ok (.iload_n 3, 1) := by decide +kernel
theorem d_Checks_mostFalse_23 : decode prog_3_method_10_code 23 = .ok (.ireturn, 1) := by decide +kernel
theorem d_Checks_mostFalse_6 : decode prog_3_method_10_code 6 = .ok (.iload_n 0, 1) := by decide +kernel
theorem d_Checks_mostFalse_7 : decode prog_3_method_10_code 7 = .ok (.iload_n 1, 1) := by decide +kernel
theorem d_Checks_mostFalse_8 : decode prog_3_method_10_code 8 = .ok (.iload_n 2, 1) := by decide +kernel
theorem d_Checks_mostFalse_9 : decode prog_3_method_10_code 9 = .ok (.iload_n 3, 1) := by decide +kernel
theorem d_Checks_mostFalse_10 : decode prog_3_method_10_code 10 = .ok (.invokestatic 57, 3) := by decide +kernel
theorem d_Checks_mostFalse_13 : decode prog_3_method_10_code 13 = .ok (.ifCond .ne 9, 3) := by decide +kernel
theorem d_Checks_mostFalse_16 : decode prog_3_method_10_code 16 = .ok (.iinc 3 (-1), 3) := by decide +kernel
theorem d_Checks_mostFalse_19 : decode prog_3_method_10_code 19 = .ok (.goto (-17), 3) := by decide +kernel
theorem d_O_bound_32 : decode prog_1_method_30_code 32 = .ok (.bipush (-4), 2) := by decide +kernel
theorem d_O_bound_34 : decode prog_1_method_30_code 34 = .ok (.ireturn, 1) := by decide +kernel
theorem d_O_learnt_0 : decode prog_1_method_31_code 0 = .ok (.iload_n 2, 1) := by decide +kernel
theorem d_O_learnt_1 : decode prog_1_method_31_code 1 = .ok (.iconst 4, 1) := by decide +kernel
theorem d_O_learnt_2 : decode prog_1_method_31_code 2 = .ok (.invokestatic 88, 3) := by decide +kernel
theorem d_O_learnt_5 : decode prog_1_method_31_code 5 = .ok (.ifCond .eq 11, 3) := by decide +kernel
theorem d_O_learnt_16 : decode prog_1_method_31_code 16 = .ok (.bipush (-2), 2) := by decide +kernel
theorem d_O_learnt_18 : decode prog_1_method_31_code 18 = .ok (.ireturn, 1) := by decide +kernel
theorem d_O_learnt_8 : decode prog_1_method_31_code 8 = .ok (.iload_n 3, 1) := by decide +kernel
theorem d_O_learnt_9 : decode prog_1_method_31_code 9 = .ok (.iconst 4, 1) := by decide +kernel
theorem d_O_learnt_10 : decode prog_1_method_31_code 10 = .ok (.invokestatic 88, 3) := by decide +kernel
theorem d_O_learnt_13 : decode prog_1_method_31_code 13 = .ok (.ifCond .ne 6, 3) := by decide +kernel
theorem d_O_learnt_19 : decode prog_1_method_31_code 19 = .ok (.iconst 0, 1) := by decide +kernel
theorem d_O_learnt_20 : decode prog_1_method_31_code 20 = .ok (.istore 4, 2) := by decide +kernel
theorem d_O_learnt_22 : decode prog_1_method_31_code 22 = .ok (.iconst 0, 1) := by decide +kernel
theorem d_O_learnt_23 : decode prog_1_method_31_code 23 = .ok (.istore 5, 2) := by decide +kernel
theorem d_O_learnt_25 : decode prog_1_method_31_code 25 = .ok (.iload 5, 2) := by decide +kernel
theorem d_O_learnt_27 : decode prog_1_method_31_code 27 = .ok (.iconst 4, 1) := by decide +kernel
theorem d_O_learnt_28 : decode prog_1_method_31_code 28 = .ok (.if_icmp .ge 29, 3) := by decide +kernel
theorem d_O_learnt_57 : decode prog_1_method_31_code 57 = .ok (.aload_n 0, 1) := by decide +kernel
theorem d_O_learnt_58 : decode prog_1_method_31_code 58 = .ok (.getfield 67, 3) := by decide +kernel
theorem d_O_learnt_61 : decode prog_1_method_31_code 61 = .ok (.aload_n 0, 1) := by decide +kernel
theorem d_O_learnt_62 : decode prog_1_method_31_code 62 = .ok (.getfield 19, 3) := by decide +kernel
theorem d_O_learnt_65 : decode prog_1_method_31_code 65 = .ok (.iload_n 1, 1) := by decide +kernel
theorem d_O_learnt_66 : decode prog_1_method_31_code 66 = .ok (.iload_n 2, 1) := by decide +kernel
theorem d_O_learnt_67 : decode prog_1_method_31_code 67 = .ok (.iload_n 3, 1) := by decide +kernel
theorem d_O_learnt_68 : decode prog_1_method_31_code 68 = .ok (.invokevirtual 292, 3) := by decide +kernel
theorem d_Checks_countLevel_0 : decode prog_3_method_7_code 0 = .ok (.iconst 0, 1) := by decide +kernel
theorem d_Checks_countLevel_1 : decode prog_3_method_7_code 1 = .ok (.istore 5, 2) := by decide +kernel
theorem d_Checks_countLevel_3 : decode prog_3_method_7_code 3 = .ok (.iconst 0, 1) := by decide +kernel
theorem d_Checks_countLevel_4 : decode prog_3_method_7_code 4 = .ok (.istore 6, 2) := by decide +kernel
theorem d_Checks_countLevel_6 : decode prog_3_method_7_code 6 = .ok (.iload 6, 2) := by decide +kernel
theorem d_Checks_countLevel_8 : decode prog_3_method_7_code 8 = .ok (.aload_n 0, 1) := by decide +kernel
theorem d_Checks_countLevel_9 : decode prog_3_method_7_code 9 = .ok (.getfield 31, 3) := by decide +kernel
theorem d_Checks_countLevel_12 : decode prog_3_method_7_code 12 = .ok (.if_icmp .ge 69, 3) := by decide +kernel
theorem d_Checks_countLevel_81 : decode prog_3_method_7_code 81 = .ok (.iload 5, 2) := by decide +kernel
theorem d_Checks_countLevel_83 : decode prog_3_method_7_code 83 = .ok (.ireturn, 1) := by decide +kernel
theorem d_Checks_countLevel_15 : decode prog_3_method_7_code 15 = .ok (.aload_n 0, 1) := by decide +kernel
theorem d_Checks_countLevel_16 : decode prog_3_method_7_code 16 = .ok (.getfield 9, 3) := by decide +kernel
theorem d_Checks_countLevel_19 : decode prog_3_method_7_code 19 = .ok (.iload 6, 2) := by decide +kernel
theorem d_Checks_countLevel_21 : decode prog_3_method_7_code 21 = .ok (.iaload, 1) := by decide +kernel
theorem d_Checks_countLevel_22 : decode prog_3_method_7_code 22 = .ok (.istore 7, 2) := by decide +kernel
theorem d_Checks_countLevel_24 : decode prog_3_method_7_code 24 = .ok (.aload_n 0, 1) := by decide +kernel
theorem d_Checks_countLevel_25 : decode prog_3_method_7_code 25 = .ok (.getfield 15, 3) := by decide +kernel
theorem d_Checks_countLevel_28 : decode prog_3_method_7_code 28 = .ok (.iload 6, 2) := by decide +kernel
theorem d_Checks_countLevel_30 : decode prog_3_method_7_code 30 = .ok (.iaload, 1) := by decide +kernel
theorem d_Checks_countLevel_31 : decode prog_3_method_7_code 31 = .ok (.istore 8, 2) := by decide +kernel
theorem d_Checks_countLevel_33 : decode prog_3_method_7_code 33 = .ok (.aload_n 0, 1) := by decide +kernel
theorem d_Checks_countLevel_34 : decode prog_3_method_7_code 34 = .ok (.getfield 18, 3) := by decide +kernel
theorem d_Checks_countLevel_37 : decode prog_3_method_7_code 37 = .ok (.iload 6, 2) := by decide +kernel
theorem d_Checks_countLevel_39 : decode prog_3_method_7_code 39 = .ok (.baload, 1) := by decide +kernel
theorem d_Checks_countLevel_40 : decode prog_3_method_7_code 40 = .ok (.iload_n 2, 1) := by decide +kernel
theorem d_Checks_countLevel_41 : decode prog_3_method_7_code 41 = .ok (.if_icmp .ne 34, 3) := by decide +kernel
theorem d_Checks_countLevel_44 : decode prog_3_method_7_code 44 = .ok (.aload_n 1, 1) := by decide +kernel
theorem d_Checks_countLevel_45 : decode prog_3_method_7_code 45 = .ok (.getfield 44, 3) := by decide +kernel
theorem d_Checks_countLevel_48 : decode prog_3_method_7_code 48 = .ok (.iload 7, 2) := by decide +kernel
theorem d_Checks_countLevel_50 : decode prog_3_method_7_code 50 = .ok (.iload 8, 2) := by decide +kernel
theorem d_Checks_countLevel_52 : decode prog_3_method_7_code 52 = .ok (.invokevirtual 48, 3) := by decide +kernel
theorem d_Checks_countLevel_55 : decode prog_3_method_7_code 55 = .ok (.ifCond .eq 20, 3) := by decide +kernel
theorem d_Checks_countLevel_58 : decode prog_3_method_7_code 58 = .ok (.aload_n 1, 1) := by decide +kernel
theorem d_Checks_countLevel_59 : decode prog_3_method_7_code 59 = .ok (.iload 7, 2) := by decide +kernel
theorem d_Checks_countLevel_61 : decode prog_3_method_7_code 61 = .ok (.iload 8, 2) := by decide +kernel
theorem d_Checks_countLevel_63 : decode prog_3_method_7_code 63 = .ok (.iload_n 3, 1) := by decide +kernel
theorem d_Checks_countLevel_64 : decode prog_3_method_7_code 64 = .ok (.invokevirtual 53, 3) := by decide +kernel
theorem d_Checks_countLevel_67 : decode prog_3_method_7_code 67 = .ok (.iload 4, 2) := by decide +kernel
theorem d_Checks_countLevel_69 : decode prog_3_method_7_code 69 = .ok (.if_icmp .ne 6, 3) := by decide +kernel
theorem d_Checks_countLevel_72 : decode prog_3_method_7_code 72 = .ok (.iinc 5 1, 3) := by decide +kernel
theorem d_Checks_countLevel_75 : decode prog_3_method_7_code 75 = .ok (.iinc 6 1, 3) := by decide +kernel
theorem d_Checks_countLevel_78 : decode prog_3_method_7_code 78 = .ok (.goto (-72), 3) := by decide +kernel
theorem d_O_learnt_71 : decode prog_1_method_31_code 71 = .ok (.istore 5, 2) := by decide +kernel
theorem d_O_learnt_73 : decode prog_1_method_31_code 73 = .ok (.iload 5, 2) := by decide +kernel
theorem d_O_learnt_75 : decode prog_1_method_31_code 75 = .ok (.iconst 1, 1) := by decide +kernel
theorem d_O_learnt_76 : decode prog_1_method_31_code 76 = .ok (.iadd, 1) := by decide +kernel
theorem d_O_learnt_77 : decode prog_1_method_31_code 77 = .ok (.iload 4, 2) := by decide +kernel
theorem d_O_learnt_79 : decode prog_1_method_31_code 79 = .ok (.iconst 4, 1) := by decide +kernel
theorem d_O_learnt_80 : decode prog_1_method_31_code 80 = .ok (.iadd, 1) := by decide +kernel
theorem d_O_learnt_81 : decode prog_1_method_31_code 81 = .ok (.invokestatic 296, 3) := by decide +kernel
theorem d_Checks_thousandths_0 : decode prog_3_method_8_code 0 = .ok (.iload_n 1, 1) := by decide +kernel
theorem d_Checks_thousandths_1 : decode prog_3_method_8_code 1 = .ok (.iconst 1, 1) := by decide +kernel
theorem d_Checks_thousandths_2 : decode prog_3_method_8_code 2 = .ok (.if_icmp .ge 7, 3) := by decide +kernel
theorem d_Checks_thousandths_9 : decode prog_3_method_8_code 9 = .ok (.sipush 2000, 3) := by decide +kernel
theorem d_Checks_thousandths_12 : decode prog_3_method_8_code 12 = .ok (.iload_n 0, 1) := by decide +kernel
theorem d_Checks_thousandths_13 : decode prog_3_method_8_code 13 = .ok (.imul, 1) := by decide +kernel
theorem d_Checks_thousandths_14 : decode prog_3_method_8_code 14 = .ok (.iload_n 1, 1) := by decide +kernel
theorem d_Checks_thousandths_15 : decode prog_3_method_8_code 15 = .ok (.iadd, 1) := by decide +kernel
theorem d_Checks_thousandths_16 : decode prog_3_method_8_code 16 = .ok (.iconst 2, 1) := by decide +kernel
theorem d_Checks_thousandths_17 : decode prog_3_method_8_code 17 = .ok (.iload_n 1, 1) := by decide +kernel
theorem d_Checks_thousandths_18 : decode prog_3_method_8_code 18 = .ok (.imul, 1) := by decide +kernel
theorem d_Checks_thousandths_19 : decode prog_3_method_8_code 19 = .ok (.idiv, 1) := by decide +kernel
theorem d_Checks_thousandths_5 : decode prog_3_method_8_code 5 = .ok (.iconst 0, 1) := by decide +kernel
theorem d_Checks_thousandths_6 : decode prog_3_method_8_code 6 = .ok (.goto 14, 3) := by decide +kernel
theorem d_Checks_thousandths_20 : decode prog_3_method_8_code 20 = .ok (.istore_n 2, 1) := by decide +kernel
theorem d_Checks_thousandths_21 : decode prog_3_method_8_code 21 = .ok (.iconst 1, 1) := by decide +kernel
theorem d_Checks_thousandths_22 : decode prog_3_method_8_code 22 = .ok (.iload_n 2, 1) := by decide +kernel
theorem d_Checks_thousandths_23 : decode prog_3_method_8_code 23 = .ok (.invokestatic 28, 3) := by decide +kernel
theorem d_Checks_thousandths_26 : decode prog_3_method_8_code 26 = .ok (.ireturn, 1) := by decide +kernel
theorem d_O_learnt_84 : decode prog_1_method_31_code 84 = .ok (.ireturn, 1) := by decide +kernel
theorem d_O_learnt_31 : decode prog_1_method_31_code 31 = .ok (.iload 4, 2) := by decide +kernel
theorem d_O_learnt_33 : decode prog_1_method_31_code 33 = .ok (.aload_n 0, 1) := by decide +kernel
theorem d_O_learnt_34 : decode prog_1_method_31_code 34 = .ok (.getfield 67, 3) := by decide +kernel
theorem d_O_learnt_37 : decode prog_1_method_31_code 37 = .ok (.aload_n 0, 1) := by decide +kernel
theorem d_O_learnt_38 : decode prog_1_method_31_code 38 = .ok (.getfield 19, 3) := by decide +kernel
theorem d_O_learnt_41 : decode prog_1_method_31_code 41 = .ok (.iload_n 1, 1) := by decide +kernel
theorem d_O_learnt_42 : decode prog_1_method_31_code 42 = .ok (.iload_n 2, 1) := by decide +kernel
theorem d_O_learnt_43 : decode prog_1_method_31_code 43 = .ok (.iload 5, 2) := by decide +kernel
theorem d_O_learnt_45 : decode prog_1_method_31_code 45 = .ok (.invokevirtual 292, 3) := by decide +kernel
theorem d_O_learnt_48 : decode prog_1_method_31_code 48 = .ok (.iadd, 1) := by decide +kernel
theorem d_O_learnt_49 : decode prog_1_method_31_code 49 = .ok (.istore 4, 2) := by decide +kernel
theorem d_O_learnt_51 : decode prog_1_method_31_code 51 = .ok (.iinc 5 1, 3) := by decide +kernel
theorem d_O_learnt_54 : decode prog_1_method_31_code 54 = .ok (.goto (-29), 3) := by decide +kernel
theorem d_O_meet_0 : decode prog_1_method_32_code 0 = .ok (.aload_n 0, 1) := by decide +kernel
theorem d_O_meet_1 : decode prog_1_method_32_code 1 = .ok (.getfield 27, 3) := by decide +kernel
theorem d_O_meet_4 : decode prog_1_method_32_code 4 = .ok (.iload_n 1, 1) := by decide +kernel
theorem d_O_meet_5 : decode prog_1_method_32_code 5 = .ok (.iload_n 2, 1) := by decide +kernel
theorem d_O_meet_6 : decode prog_1_method_32_code 6 = .ok (.invokevirtual 190, 3) := by decide +kernel
theorem d_O_meet_9 : decode prog_1_method_32_code 9 = .ok (.ifCond .eq 13, 3) := by decide +kernel
theorem d_O_meet_22 : decode prog_1_method_32_code 22 = .ok (.bipush (-2), 2) := by decide +kernel
theorem d_O_meet_24 : decode prog_1_method_32_code 24 = .ok (.ireturn, 1) := by decide +kernel
theorem d_O_meet_12 : decode prog_1_method_32_code 12 = .ok (.iload_n 3, 1) := by decide +kernel
theorem d_O_meet_13 : decode prog_1_method_32_code 13 = .ok (.iconst 0, 1) := by decide +kernel
theorem d_O_meet_14 : decode prog_1_method_32_code 14 = .ok (.bipush 63, 2) := by decide +kernel
theorem d_O_meet_16 : decode prog_1_method_32_code 16 = .ok (.invokestatic 78, 3) := by decide +kernel
theorem d_O_meet_19 : decode prog_1_method_32_code 19 = .ok (.ifCond .ne 6, 3) := by decide +kernel
theorem d_O_meet_25 : decode prog_1_method_32_code 25 = .ok (.aload_n 0, 1) := by decide +kernel
theorem d_O_meet_26 : decode prog_1_method_32_code 26 = .ok (.getfield 27, 3) := by decide +kernel
theorem d_O_meet_29 : decode prog_1_method_32_code 29 = .ok (.iload_n 1, 1) := by decide +kernel
theorem d_O_meet_30 : decode prog_1_method_32_code 30 = .ok (.iload_n 2, 1) := by decide +kernel
theorem d_O_meet_31 : decode prog_1_method_32_code 31 = .ok (.invokevirtual 259, 3) := by decide +kernel
theorem d_O_meet_34 : decode prog_1_method_32_code 34 = .ok (.ifCond .eq 15, 3) := by decide +kernel
theorem d_O_meet_49 : decode prog_1_method_32_code 49 = .ok (.bipush (-3), 2) := by decide +kernel
theorem d_O_meet_51 : decode prog_1_method_32_code 51 = .ok (.ireturn, 1) := by decide +kernel
theorem d_O_meet_37 : decode prog_1_method_32_code 37 = .ok (.aload_n 0, 1) := by decide +kernel
theorem d_O_meet_38 : decode prog_1_method_32_code 38 = .ok (.getfield 27, 3) := by decide +kernel
theorem d_O_meet_41 : decode prog_1_method_32_code 41 = .ok (.iload_n 1, 1) := by decide +kernel
theorem d_O_meet_42 : decode prog_1_method_32_code 42 = .ok (.iload_n 2, 1) := by decide +kernel
theorem d_O_meet_43 : decode prog_1_method_32_code 43 = .ok (.invokevirtual 299, 3) := by decide +kernel
theorem d_Rows_areOfUnlikeRegisters_0 : decode prog_8_method_12_code 0 = .ok (.aload_n 0, 1) := by decide +kernel
theorem d_Rows_areOfUnlikeRegisters_1 : decode prog_8_method_12_code 1 = .ok (.iload_n 1, 1) := by decide +kernel
theorem d_Rows_areOfUnlikeRegisters_2 : decode prog_8_method_12_code 2 = .ok (.iconst 0, 1) := by decide +kernel
theorem d_Rows_areOfUnlikeRegisters_3 : decode prog_8_method_12_code 3 = .ok (.invokevirtual 36, 3) := by decide +kernel
theorem d_Rows_areOfUnlikeRegisters_6 : decode prog_8_method_12_code 6 = .ok (.aload_n 0, 1) := by decide +kernel
theorem d_Rows_areOfUnlikeRegisters_7 : decode prog_8_method_12_code 7 = .ok (.iload_n 2, 1) := by decide +kernel
theorem d_Rows_areOfUnlikeRegisters_8 : decode prog_8_method_12_code 8 = .ok (.iconst 0, 1) := by decide +kernel
theorem d_Rows_areOfUnlikeRegisters_9 : decode prog_8_method_12_code 9 = .ok (.invokevirtual 36, 3) := by decide +kernel
theorem d_Rows_areOfUnlikeRegisters_12 : decode prog_8_method_12_code 12 = .ok (.if_icmp .eq 7, 3) := by decide +kernel
theorem d_Rows_areOfUnlikeRegisters_19 : decode prog_8_method_12_code 19 = .ok (.iconst 0, 1) := by decide +kernel
theorem d_Rows_areOfUnlikeRegisters_20 : decode prog_8_method_12_code 20 = .ok (.ireturn, 1) := by decide +kernel
theorem d_Rows_areOfUnlikeRegisters_15 : decode prog_8_method_12_code 15 = .ok (.iconst 1, 1) := by decide +kernel
theorem d_Rows_areOfUnlikeRegisters_16 : decode prog_8_method_12_code 16 = .ok (.goto 4, 3) := by decide +kernel
theorem d_O_meet_46 : decode prog_1_method_32_code 46 = .ok (.ifCond .ne 6, 3) := by decide +kernel
theorem d_O_meet_52 : decode prog_1_method_32_code 52 = .ok (.aload_n 0, 1) := by decide +kernel
theorem d_O_meet_53 : decode prog_1_method_32_code 53 = .ok (.getfield 19, 3) := by decide +kernel
theorem d_O_meet_56 : decode prog_1_method_32_code 56 = .ok (.iload_n 1, 1) := by decide +kernel
theorem d_O_meet_57 : decode prog_1_method_32_code 57 = .ok (.iload_n 2, 1) := by decide +kernel
theorem d_O_meet_58 : decode prog_1_method_32_code 58 = .ok (.invokevirtual 302, 3) := by decide +kernel
theorem d_Pairs_alikeBy_0 : decode prog_7_method_9_code 0 = .ok (.aload_n 0, 1) := by decide +kernel
theorem d_Pairs_alikeBy_1 : decode prog_7_method_9_code 1 = .ok (.getfield 12, 3) := by decide +kernel
theorem d_Pairs_alikeBy_4 : decode prog_7_method_9_code 4 = .ok (.iload_n 1, 1) := by decide +kernel
theorem d_Pairs_alikeBy_5 : decode prog_7_method_9_code 5 = .ok (.iconst 0, 1) := by decide +kernel
theorem d_Pairs_alikeBy_6 : decode prog_7_method_9_code 6 = .ok (.invokevirtual 92, 3) := by decide +kernel
theorem d_Pairs_alikeBy_9 : decode prog_7_method_9_code 9 = .ok (.aload_n 0, 1) := by decide +kernel
theorem d_Pairs_alikeBy_10 : decode prog_7_method_9_code 10 = .ok (.getfield 12, 3) := by decide +kernel
theorem d_Pairs_alikeBy_13 : decode prog_7_method_9_code 13 = .ok (.iload_n 2, 1) := by decide +kernel
theorem d_Pairs_alikeBy_14 : decode prog_7_method_9_code 14 = .ok (.iconst 0, 1) := by decide +kernel
theorem d_Pairs_alikeBy_15 : decode prog_7_method_9_code 15 = .ok (.invokevirtual 92, 3) := by decide +kernel
theorem d_Pairs_alikeBy_18 : decode prog_7_method_9_code 18 = .ok (.if_icmp .ne 7, 3) := by decide +kernel
theorem d_Pairs_alikeBy_21 : decode prog_7_method_9_code 21 = .ok (.iconst 1, 1) := by decide +kernel
theorem d_Pairs_alikeBy_22 : decode prog_7_method_9_code 22 = .ok (.goto 4, 3) := by decide +kernel
theorem d_Pairs_alikeBy_25 : decode prog_7_method_9_code 25 = .ok (.iconst 0, 1) := by decide +kernel
theorem d_Pairs_alikeBy_26 : decode prog_7_method_9_code 26 = .ok (.istore_n 3, 1) := by decide +kernel
theorem d_Pairs_alikeBy_27 : decode prog_7_method_9_code 27 = .ok (.aload_n 0, 1) := by decide +kernel
theorem d_Pairs_alikeBy_28 : decode prog_7_method_9_code 28 = .ok (.getfield 28, 3) := by decide +kernel
theorem d_Pairs_alikeBy_31 : decode prog_7_method_9_code 31 = .ok (.iload_n 1, 1) := by decide +kernel
theorem d_Pairs_alikeBy_32 : decode prog_7_method_9_code 32 = .ok (.iload_n 2, 1) := by decide +kernel
theorem d_Pairs_alikeBy_33 : decode prog_7_method_9_code 33 = .ok (.invokevirtual 43, 3) := by decide +kernel
theorem d_Pairs_alikeBy_36 : decode prog_7_method_9_code 36 = .ok (.ifCond .eq 7, 3) := by decide +kernel
theorem d_Pairs_alikeBy_43 : decode prog_7_method_9_code 43 = .ok (.iconst 0, 1) := by decide +kernel
theorem d_Pairs_alikeBy_39 : decode prog_7_method_9_code 39 = .ok (.iconst 1, 1) := by decide +kernel
theorem d_Pairs_alikeBy_40 : decode prog_7_method_9_code 40 = .ok (.goto 4, 3) := by decide +kernel
theorem d_Pairs_alikeBy_44 : decode prog_7_method_9_code 44 = .ok (.istore 4, 2) := by decide +kernel
theorem d_Pairs_alikeBy_46 : decode prog_7_method_9_code 46 = .ok (.iload 4, 2) := by decide +kernel
theorem d_Pairs_alikeBy_48 : decode prog_7_method_9_code 48 = .ok (.iload_n 3, 1) := by decide +kernel
theorem d_Pairs_alikeBy_49 : decode prog_7_method_9_code 49 = .ok (.ifCond .eq 7, 3) := by decide +kernel
theorem d_Pairs_alikeBy_56 : decode prog_7_method_9_code 56 = .ok (.iconst 0, 1) := by decide +kernel
theorem d_Pairs_alikeBy_52 : decode prog_7_method_9_code 52 = .ok (.iconst 2, 1) := by decide +kernel
theorem d_Pairs_alikeBy_53 : decode prog_7_method_9_code 53 = .ok (.goto 4, 3) := by decide +kernel
theorem d_Pairs_alikeBy_57 : decode prog_7_method_9_code 57 = .ok (.ior, 1) := by decide +kernel
theorem d_Pairs_alikeBy_58 : decode prog_7_method_9_code 58 = .ok (.istore 4, 2) := by decide +kernel
theorem d_Pairs_alikeBy_60 : decode prog_7_method_9_code 60 = .ok (.iload 4, 2) := by decide +kernel
theorem d_Pairs_alikeBy_62 : decode prog_7_method_9_code 62 = .ok (.aload_n 0, 1) := by decide +kernel
theorem d_Pairs_alikeBy_63 : decode prog_7_method_9_code 63 = .ok (.iload_n 1, 1) := by decide +kernel
theorem d_Pairs_alikeBy_64 : decode prog_7_method_9_code 64 = .ok (.iload_n 2, 1) := by decide +kernel
theorem d_Pairs_alikeBy_65 : decode prog_7_method_9_code 65 = .ok (.invokevirtual 95, 3) := by decide +kernel
theorem d_Pairs_areOfOneDecade_0 : decode prog_7_method_10_code 0 = .ok (.aload_n 0, 1) := by decide +kernel
theorem d_Pairs_areOfOneDecade_1 : decode prog_7_method_10_code 1 = .ok (.getfield 12, 3) := by decide +kernel
theorem d_Pairs_areOfOneDecade_4 : decode prog_7_method_10_code 4 = .ok (.iload_n 1, 1) := by decide +kernel
theorem d_Pairs_areOfOneDecade_5 : decode prog_7_method_10_code 5 = .ok (.iconst 1, 1) := by decide +kernel
theorem d_Pairs_areOfOneDecade_6 : decode prog_7_method_10_code 6 = .ok (.invokevirtual 47, 3) := by decide +kernel
theorem d_Pairs_areOfOneDecade_9 : decode prog_7_method_10_code 9 = .ok (.istore_n 3, 1) := by decide +kernel
theorem d_Pairs_areOfOneDecade_10 : decode prog_7_method_10_code 10 = .ok (.aload_n 0, 1) := by decide +kernel
theorem d_Pairs_areOfOneDecade_11 : decode prog_7_method_10_code 11 = .ok (.getfield 12, 3) := by decide +kernel
theorem d_Pairs_areOfOneDecade_14 : decode prog_7_method_10_code 14 = .ok (.iload_n 2, 1) := by decide +kernel
theorem d_Pairs_areOfOneDecade_15 : decode prog_7_method_10_code 15 = .ok (.iconst 1, 1) := by decide +kernel
theorem d_Pairs_areOfOneDecade_16 : decode prog_7_method_10_code 16 = .ok (.invokevirtual 47, 3) := by decide +kernel
theorem d_Pairs_areOfOneDecade_19 : decode prog_7_method_10_code 19 = .ok (.istore 4, 2) := by decide +kernel
theorem d_Pairs_areOfOneDecade_21 : decode prog_7_method_10_code 21 = .ok (.iload_n 3, 1) := by decide +kernel
theorem d_Pairs_areOfOneDecade_22 : decode prog_7_method_10_code 22 = .ok (.iconst (-1), 1) := by decide +kernel
theorem d_Pairs_areOfOneDecade_23 : decode prog_7_method_10_code 23 = .ok (.if_icmp .eq 25, 3) := by decide +kernel
theorem d_Pairs_areOfOneDecade_48 : decode prog_7_method_10_code 48 = .ok (.iconst 0, 1) := by decide +kernel
theorem d_Pairs_areOfOneDecade_49 : decode prog_7_method_10_code 49 = .ok (.ireturn, 1) := by decide +kernel
theorem d_Pairs_areOfOneDecade_26 : decode prog_7_method_10_code 26 = .ok (.iload 4, 2) := by decide +kernel
theorem d_Pairs_areOfOneDecade_28 : decode prog_7_method_10_code 28 = .ok (.iconst (-1), 1) := by decide +kernel
theorem d_Pairs_areOfOneDecade_29 : decode prog_7_method_10_code 29 = .ok (.if_icmp .eq 19, 3) := by decide +kernel
theorem d_Pairs_areOfOneDecade_32 : decode prog_7_method_10_code 32 = .ok (.iload_n 3, 1) := by decide +kernel
theorem d_Pairs_areOfOneDecade_33 : decode prog_7_method_10_code 33 = .ok (.bipush 10, 2) := by decide +kernel
theorem d_Pairs_areOfOneDecade_35 : decode prog_7_method_10_code 35 = .ok (.idiv, 1) := by decide +kernel
theorem d_Pairs_areOfOneDecade_36 : decode prog_7_method_10_code 36 = .ok (.iload 4, 2) := by decide +kernel
theorem d_Pairs_areOfOneDecade_38 : decode prog_7_method_10_code 38 = .ok (.bipush 10, 2) := by decide +kernel
theorem d_Pairs_areOfOneDecade_40 : decode prog_7_method_10_code 40 = .ok (.idiv, 1) := by decide +kernel
theorem d_Pairs_areOfOneDecade_41 : decode prog_7_method_10_code 41 = .ok (.if_icmp .ne 7, 3) := by decide +kernel
theorem d_Pairs_areOfOneDecade_44 : decode prog_7_method_10_code 44 = .ok (.iconst 1, 1) := by decide +kernel
theorem d_Pairs_areOfOneDecade_45 : decode prog_7_method_10_code 45 = .ok (.goto 4, 3) := by decide +kernel
theorem d_Pairs_alikeBy_68 : decode prog_7_method_9_code 68 = .ok (.ifCond .eq 7, 3) := by decide +kernel
theorem d_Pairs_alikeBy_75 : decode prog_7_method_9_code 75 = .ok (.iconst 0, 1) := by decide +kernel
theorem d_Pairs_alikeBy_71 : decode prog_7_method_9_code 71 = .ok (.iconst 4, 1) := by decide +kernel
theorem d_Pairs_alikeBy_72 : decode prog_7_method_9_code 72 = .ok (.goto 4, 3) := by decide +kernel
theorem d_Pairs_alikeBy_76 : decode prog_7_method_9_code 76 = .ok (.ior, 1) := by decide +kernel
theorem d_Pairs_alikeBy_77 : decode prog_7_method_9_code 77 = .ok (.istore 4, 2) := by decide +kernel
theorem d_Pairs_alikeBy_79 : decode prog_7_method_9_code 79 = .ok (.iload 4, 2) := by decide +kernel
theorem d_Pairs_alikeBy_81 : decode prog_7_method_9_code 81 = .ok (.aload_n 0, 1) := by decide +kernel
theorem d_Pairs_alikeBy_82 : decode prog_7_method_9_code 82 = .ok (.getfield 12, 3) := by decide +kernel
theorem d_Pairs_alikeBy_85 : decode prog_7_method_9_code 85 = .ok (.iload_n 1, 1) := by decide +kernel
theorem d_Pairs_alikeBy_86 : decode prog_7_method_9_code 86 = .ok (.iload_n 2, 1) := by decide +kernel
theorem d_Pairs_alikeBy_87 : decode prog_7_method_9_code 87 = .ok (.iconst 2, 1) := by decide +kernel
theorem d_Pairs_alikeBy_88 : decode prog_7_method_9_code 88 = .ok (.invokevirtual 98, 3) := by decide +kernel
theorem d_Rows_areAlikeIn_0 : decode prog_8_method_13_code 0 = .ok (.aload_n 0, 1) := by decide +kernel
theorem d_Rows_areAlikeIn_1 : decode prog_8_method_13_code 1 = .ok (.iload_n 1, 1) := by decide +kernel
theorem d_Rows_areAlikeIn_2 : decode prog_8_method_13_code 2 = .ok (.iload_n 3, 1) := by decide +kernel
theorem d_Rows_areAlikeIn_3 : decode prog_8_method_13_code 3 = .ok (.invokevirtual 36, 3) := by decide +kernel
theorem d_Rows_areAlikeIn_6 : decode prog_8_method_13_code 6 = .ok (.iconst (-1), 1) := by decide +kernel
theorem d_Rows_areAlikeIn_7 : decode prog_8_method_13_code 7 = .ok (.if_icmp .eq 22, 3) := by decide +kernel
theorem d_Rows_areAlikeIn_29 : decode prog_8_method_13_code 29 = .ok (.iconst 0, 1) := by decide +kernel
theorem d_Rows_areAlikeIn_30 : decode prog_8_method_13_code 30 = .ok (.ireturn, 1) := by decide +kernel
theorem d_Rows_areAlikeIn_10 : decode prog_8_method_13_code 10 = .ok (.aload_n 0, 1) := by decide +kernel
theorem d_Rows_areAlikeIn_11 : decode prog_8_method_13_code 11 = .ok (.iload_n 1, 1) := by decide +kernel
theorem d_Rows_areAlikeIn_12 : decode prog_8_method_13_code 12 = .ok (.iload_n 3, 1) := by decide +kernel
theorem d_Rows_areAlikeIn_13 : decode prog_8_method_13_code 13 = .ok (.invokevirtual 36, 3) := by decide +kernel
theorem d_Rows_areAlikeIn_16 : decode prog_8_method_13_code 16 = .ok (.aload_n 0, 1) := by decide +kernel
theorem d_Rows_areAlikeIn_17 : decode prog_8_method_13_code 17 = .ok (.iload_n 2, 1) := by decide +kernel
theorem d_Rows_areAlikeIn_18 : decode prog_8_method_13_code 18 = .ok (.iload_n 3, 1) := by decide +kernel
theorem d_Rows_areAlikeIn_19 : decode prog_8_method_13_code 19 = .ok (.invokevirtual 36, 3) := by decide +kernel
theorem d_Rows_areAlikeIn_22 : decode prog_8_method_13_code 22 = .ok (.if_icmp .ne 7, 3) := by decide +kernel
theorem d_Rows_areAlikeIn_25 : decode prog_8_method_13_code 25 = .ok (.iconst 1, 1) := by decide +kernel
theorem d_Rows_areAlikeIn_26 : decode prog_8_method_13_code 26 = .ok (.goto 4, 3) := by decide +kernel
theorem d_Pairs_alikeBy_91 : decode prog_7_method_9_code 91 = .ok (.ifCond .eq 8, 3) := by decide +kernel
theorem d_Pairs_alikeBy_99 : decode prog_7_method_9_code 99 = .ok (.iconst 0, 1) := by decide +kernel
theorem d_Pairs_alikeBy_94 : decode prog_7_method_9_code 94 = .ok (.bipush 8, 2) := by decide +kernel
theorem d_Pairs_alikeBy_96 : decode prog_7_method_9_code 96 = .ok (.goto 4, 3) := by decide +kernel
theorem d_Pairs_alikeBy_100 : decode prog_7_method_9_code 100 = .ok (.ior, 1) := by decide +kernel
theorem d_Pairs_alikeBy_101 : decode prog_7_method_9_code 101 = .ok (.istore 4, 2) := by decide +kernel
theorem d_Pairs_alikeBy_103 : decode prog_7_method_9_code 103 = .ok (.iload 4, 2) := by decide +kernel
theorem d_Pairs_alikeBy_105 : decode prog_7_method_9_code 105 = .ok (.aload_n 0, 1) := by decide +kernel
theorem d_Pairs_alikeBy_106 : decode prog_7_method_9_code 106 = .ok (.getfield 12, 3) := by decide +kernel
theorem d_Pairs_alikeBy_109 : decode prog_7_method_9_code 109 = .ok (.iload_n 1, 1) := by decide +kernel
theorem d_Pairs_alikeBy_110 : decode prog_7_method_9_code 110 = .ok (.invokevirtual 102, 3) := by decide +kernel
theorem d_Rows_lastLetter_0 : decode prog_8_method_9_code 0 = .ok (.aload_n 0, 1) := by decide +kernel
theorem d_Rows_lastLetter_1 : decode prog_8_method_9_code 1 = .ok (.iload_n 1, 1) := by decide +kernel
theorem d_Rows_lastLetter_2 : decode prog_8_method_9_code 2 = .ok (.aload_n 0, 1) := by decide +kernel
theorem d_Rows_lastLetter_3 : decode prog_8_method_9_code 3 = .ok (.iload_n 1, 1) := by decide +kernel
theorem d_Rows_lastLetter_4 : decode prog_8_method_9_code 4 = .ok (.iconst 4, 1) := by decide +kernel
theorem d_Rows_lastLetter_5 : decode prog_8_method_9_code 5 = .ok (.invokevirtual 36, 3) := by decide +kernel
theorem d_Rows_lastLetter_8 : decode prog_8_method_9_code 8 = .ok (.iconst 1, 1) := by decide +kernel
theorem d_Rows_lastLetter_9 : decode prog_8_method_9_code 9 = .ok (.isub, 1) := by decide +kernel
theorem d_Rows_lastLetter_10 : decode prog_8_method_9_code 10 = .ok (.invokevirtual 40, 3) := by decide +kernel
theorem d_Rows_lastLetter_13 : decode prog_8_method_9_code 13 = .ok (.ireturn, 1) := by decide +kernel
theorem d_Pairs_alikeBy_113 : decode prog_7_method_9_code 113 = .ok (.aload_n 0, 1) := by decide +kernel
theorem d_Pairs_alikeBy_114 : decode prog_7_method_9_code 114 = .ok (.getfield 12, 3) := by decide +kernel
theorem d_Pairs_alikeBy_117 : decode prog_7_method_9_code 117 = .ok (.iload_n 2, 1) := by decide +kernel
theorem d_Pairs_alikeBy_118 : decode prog_7_method_9_code 118 = .ok (.invokevirtual 102, 3) := by decide +kernel
theorem d_Pairs_alikeBy_121 : decode prog_7_method_9_code 121 = .ok (.if_icmp .ne 8, 3) := by decide +kernel
theorem d_Pairs_alikeBy_124 : decode prog_7_method_9_code 124 = .ok (.bipush 16, 2) := by decide +kernel
theorem d_Pairs_alikeBy_126 : decode prog_7_method_9_code 126 = .ok (.goto 4, 3) := by decide +kernel
theorem d_Pairs_alikeBy_129 : decode prog_7_method_9_code 129 = .ok (.iconst 0, 1) := by decide +kernel
theorem d_Pairs_alikeBy_130 : decode prog_7_method_9_code 130 = .ok (.ior, 1) := by decide +kernel
theorem d_Pairs_alikeBy_131 : decode prog_7_method_9_code 131 = .ok (.istore 4, 2) := by decide +kernel
theorem d_Pairs_alikeBy_133 : decode prog_7_method_9_code 133 = .ok (.iload 4, 2) := by decide +kernel
theorem d_Pairs_alikeBy_135 : decode prog_7_method_9_code 135 = .ok (.iload_n 3, 1) := by decide +kernel
theorem d_Pairs_alikeBy_136 : decode prog_7_method_9_code 136 = .ok (.ifCond .eq 21, 3) := by decide +kernel
theorem d_Pairs_alikeBy_139 : decode prog_7_method_9_code 139 = .ok (.aload_n 0, 1) := by decide +kernel
theorem d_Pairs_alikeBy_140 : decode prog_7_method_9_code 140 = .ok (.getfield 12, 3) := by decide +kernel
theorem d_Pairs_alikeBy_143 : decode prog_7_method_9_code 143 = .ok (.iload_n 1, 1) := by decide +kernel
theorem d_Pairs_alikeBy_144 : decode prog_7_method_9_code 144 = .ok (.iload_n 2, 1) := by decide +kernel
theorem d_Pairs_alikeBy_145 : decode prog_7_method_9_code 145 = .ok (.iconst 3, 1) := by decide +kernel
theorem d_Pairs_alikeBy_146 : decode prog_7_method_9_code 146 = .ok (.invokevirtual 98, 3) := by decide +kernel
theorem d_Pairs_alikeBy_149 : decode prog_7_method_9_code 149 = .ok (.ifCond .eq 8, 3) := by decide +kernel
theorem d_Pairs_alikeBy_152 : decode prog_7_method_9_code 152 = .ok (.bipush 32, 2) := by decide +kernel
theorem d_Pairs_alikeBy_154 : decode prog_7_method_9_code 154 = .ok (.goto 4, 3) := by decide +kernel
theorem d_Pairs_alikeBy_158 : decode prog_7_method_9_code 158 = .ok (.ior, 1) := by decide +kernel
theorem d_Pairs_alikeBy_159 : decode prog_7_method_9_code 159 = .ok (.istore 4, 2) := by decide +kernel
theorem d_Pairs_alikeBy_161 : decode prog_7_method_9_code 161 = .ok (.iload 4, 2) := by decide +kernel
theorem d_Pairs_alikeBy_163 : decode prog_7_method_9_code 163 = .ok (.ireturn, 1) := by decide +kernel
theorem d_Pairs_alikeBy_157 : decode prog_7_method_9_code 157 = .ok (.iconst 0, 1) := by decide +kernel
theorem d_O_meet_61 : decode prog_1_method_32_code 61 = .ok (.iload_n 3, 1) := by decide +kernel
theorem d_O_meet_62 : decode prog_1_method_32_code 62 = .ok (.iand, 1) := by decide +kernel
theorem d_O_meet_63 : decode prog_1_method_32_code 63 = .ok (.ifCond .eq 7, 3) := by decide +kernel
theorem d_O_meet_70 : decode prog_1_method_32_code 70 = .ok (.iconst 0, 1) := by decide +kernel
theorem d_O_meet_66 : decode prog_1_method_32_code 66 = .ok (.iconst 1, 1) := by decide +kernel
theorem d_O_meet_67 : decode prog_1_method_32_code 67 = .ok (.goto 4, 3) := by decide +kernel
theorem d_O_meet_71 : decode prog_1_method_32_code 71 = .ok (.invokestatic 151, 3) := by decide +kernel
theorem d_O_meet_74 : decode prog_1_method_32_code 74 = .ok (.ireturn, 1) := by decide +kernel
theorem d_O_pairs_0 : decode prog_1_method_33_code 0 = .ok (.iload_n 1, 1) := by decide +kernel
theorem d_O_pairs_1 : decode prog_1_method_33_code 1 = .ok (.iconst 0, 1) := by decide +kernel
theorem d_O_pairs_2 : decode prog_1_method_33_code 2 = .ok (.bipush 63, 2) := by decide +kernel
theorem d_O_pairs_4 : decode prog_1_method_33_code 4 = .ok (.invokestatic 78, 3) := by decide +kernel
theorem d_O_pairs_7 : decode prog_1_method_33_code 7 = .ok (.ifCond .ne 6, 3) := by decide +kernel
theorem d_O_pairs_10 : decode prog_1_method_33_code 10 = .ok (.bipush (-2), 2) := by decide +kernel
theorem d_O_pairs_12 : decode prog_1_method_33_code 12 = .ok (.ireturn, 1) := by decide +kernel
theorem d_O_pairs_13 : decode prog_1_method_33_code 13 = .ok (.aload_n 0, 1) := by decide +kernel
theorem d_O_pairs_14 : decode prog_1_method_33_code 14 = .ok (.getfield 74, 3) := by decide +kernel
theorem d_O_pairs_17 : decode prog_1_method_33_code 17 = .ok (.aload_n 0, 1) := by decide +kernel
theorem d_O_pairs_18 : decode prog_1_method_33_code 18 = .ok (.getfield 19, 3) := by decide +kernel
theorem d_O_pairs_21 : decode prog_1_method_33_code 21 = .ok (.invokevirtual 305, 3) := by decide +kernel
theorem d_Keys_tally_0 : decode prog_5_method_2_code 0 = .ok (.aload_n 0, 1) := by decide +kernel
theorem d_Keys_tally_1 : decode prog_5_method_2_code 1 = .ok (.getfield 9, 3) := by decide +kernel
theorem d_Keys_tally_4 : decode prog_5_method_2_code 4 = .ok (.iconst 0, 1) := by decide +kernel
theorem d_Keys_tally_5 : decode prog_5_method_2_code 5 = .ok (.invokestatic 19, 3) := by decide +kernel
theorem d_Keys_tally_8 : decode prog_5_method_2_code 8 = .ok (.aload_n 1, 1) := by decide +kernel
theorem d_Keys_tally_9 : decode prog_5_method_2_code 9 = .ok (.getfield 25, 3) := by decide +kernel
theorem d_Keys_tally_12 : decode prog_5_method_2_code 12 = .ok (.astore_n 2, 1) := by decide +kernel
theorem d_Keys_tally_13 : decode prog_5_method_2_code 13 = .ok (.iconst 0, 1) := by decide +kernel
theorem d_Keys_tally_14 : decode prog_5_method_2_code 14 = .ok (.istore_n 3, 1) := by decide +kernel
theorem d_Keys_tally_15 : decode prog_5_method_2_code 15 = .ok (.iload_n 3, 1) := by decide +kernel
theorem d_Keys_tally_16 : decode prog_5_method_2_code 16 = .ok (.aload_n 2, 1) := by decide +kernel
theorem d_Keys_tally_17 : decode prog_5_method_2_code 17 = .ok (.getfield 31, 3) := by decide +kernel
theorem d_Keys_tally_20 : decode prog_5_method_2_code 20 = .ok (.if_icmp .ge 65, 3) := by decide +kernel
theorem d_Keys_tally_85 : decode prog_5_method_2_code 85 = .ok (.return_, 1) := by decide +kernel
theorem d_Keys_tally_23 : decode prog_5_method_2_code 23 = .ok (.iload_n 3, 1) := by decide +kernel
theorem d_Keys_tally_24 : decode prog_5_method_2_code 24 = .ok (.iconst 1, 1) := by decide +kernel
theorem d_Keys_tally_25 : decode prog_5_method_2_code 25 = .ok (.iadd, 1) := by decide +kernel
theorem d_Keys_tally_26 : decode prog_5_method_2_code 26 = .ok (.istore 4, 2) := by decide +kernel
theorem d_Keys_tally_28 : decode prog_5_method_2_code 28 = .ok (.iload 4, 2) := by decide +kernel
theorem d_Keys_tally_30 : decode prog_5_method_2_code 30 = .ok (.aload_n 2, 1) := by decide +kernel
theorem d_Keys_tally_31 : decode prog_5_method_2_code 31 = .ok (.getfield 31, 3) := by decide +kernel
theorem d_Keys_tally_34 : decode prog_5_method_2_code 34 = .ok (.if_icmp .ge 45, 3) := by decide +kernel
theorem d_Keys_tally_79 : decode prog_5_method_2_code 79 = .ok (.iinc 3 1, 3) := by decide +kernel
theorem d_Keys_tally_82 : decode prog_5_method_2_code 82 = .ok (.goto (-67), 3) := by decide +kernel
theorem d_Keys_tally_37 : decode prog_5_method_2_code 37 = .ok (.aload_n 2, 1) := by decide +kernel
theorem d_Keys_tally_38 : decode prog_5_method_2_code 38 = .ok (.iload_n 3, 1) := by decide +kernel
theorem d_Keys_tally_39 : decode prog_5_method_2_code 39 = .ok (.iload 4, 2) := by decide +kernel
theorem d_Keys_tally_41 : decode prog_5_method_2_code 41 = .ok (.invokevirtual 37, 3) := by decide +kernel
theorem d_Keys_tally_44 : decode prog_5_method_2_code 44 = .ok (.ifCond .eq 29, 3) := by decide +kernel
theorem d_Keys_tally_47 : decode prog_5_method_2_code 47 = .ok (.aload_n 2, 1) := by decide +kernel
theorem d_Keys_tally_48 : decode prog_5_method_2_code 48 = .ok (.iload_n 3, 1) := by decide +kernel
theorem d_Keys_tally_49 : decode prog_5_method_2_code 49 = .ok (.iload 4, 2) := by decide +kernel
theorem d_Keys_tally_51 : decode prog_5_method_2_code 51 = .ok (.invokevirtual 41, 3) := by decide +kernel
theorem d_Keys_tally_54 : decode prog_5_method_2_code 54 = .ok (.ifCond .eq 19, 3) := by decide +kernel
theorem d_Keys_tally_57 : decode prog_5_method_2_code 57 = .ok (.aload_n 0, 1) := by decide +kernel
theorem d_Keys_tally_58 : decode prog_5_method_2_code 58 = .ok (.getfield 9, 3) := by decide +kernel
theorem d_Keys_tally_61 : decode prog_5_method_2_code 61 = .ok (.aload_n 1, 1) := by decide +kernel
theorem d_Keys_tally_62 : decode prog_5_method_2_code 62 = .ok (.iload_n 3, 1) := by decide +kernel
theorem d_Keys_tally_63 : decode prog_5_method_2_code 63 = .ok (.iload 4, 2) := by decide +kernel
theorem d_Keys_tally_65 : decode prog_5_method_2_code 65 = .ok (.invokevirtual 44, 3) := by decide +kernel
theorem d_Keys_tally_68 : decode prog_5_method_2_code 68 = .ok (.dup2, 1) := by decide +kernel
theorem d_Keys_tally_69 : decode prog_5_method_2_code 69 = .ok (.iaload, 1) := by decide +kernel
theorem d_Keys_tally_70 : decode prog_5_method_2_code 70 = .ok (.iconst 1, 1) := by decide +kernel
theorem d_Keys_tally_71 : decode prog_5_method_2_code 71 = .ok (.iadd, 1) := by decide +kernel
theorem d_Keys_tally_72 : decode prog_5_method_2_code 72 = .ok (.iastore, 1) := by decide +kernel
theorem d_Keys_tally_73 : decode prog_5_method_2_code 73 = .ok (.iinc 4 1, 3) := by decide +kernel
theorem d_Keys_tally_76 : decode prog_5_method_2_code 76 = .ok (.goto (-48), 3) := by decide +kernel
theorem d_O_pairs_24 : decode prog_1_method_33_code 24 = .ok (.aload_n 0, 1) := by decide +kernel
theorem d_O_pairs_25 : decode prog_1_method_33_code 25 = .ok (.getfield 74, 3) := by decide +kernel
theorem d_O_pairs_28 : decode prog_1_method_33_code 28 = .ok (.iload_n 1, 1) := by decide +kernel
theorem d_O_pairs_29 : decode prog_1_method_33_code 29 = .ok (.invokevirtual 308, 3) := by decide +kernel
theorem d_Keys_pairsBy_0 : decode prog_5_method_4_code 0 = .ok (.iconst 0, 1) := by decide +kernel
theorem d_Keys_pairsBy_1 : decode prog_5_method_4_code 1 = .ok (.istore_n 2, 1) := by decide +kernel
theorem d_Keys_pairsBy_2 : decode prog_5_method_4_code 2 = .ok (.iconst 0, 1) := by decide +kernel
theorem d_Keys_pairsBy_3 : decode prog_5_method_4_code 3 = .ok (.istore_n 3, 1) := by decide +kernel
theorem d_Keys_pairsBy_4 : decode prog_5_method_4_code 4 = .ok (.iload_n 3, 1) := by decide +kernel
theorem d_Keys_pairsBy_5 : decode prog_5_method_4_code 5 = .ok (.bipush 63, 2) := by decide +kernel
theorem d_Keys_pairsBy_7 : decode prog_5_method_4_code 7 = .ok (.if_icmp .gt 24, 3) := by decide +kernel
theorem d_Keys_pairsBy_31 : decode prog_5_method_4_code 31 = .ok (.iload_n 2, 1) := by decide +kernel
theorem d_Keys_pairsBy_32 : decode prog_5_method_4_code 32 = .ok (.ireturn, 1) := by decide +kernel
theorem d_Keys_pairsBy_10 : decode prog_5_method_4_code 10 = .ok (.iload_n 3, 1) := by decide +kernel
theorem d_Keys_pairsBy_11 : decode prog_5_method_4_code 11 = .ok (.iload_n 1, 1) := by decide +kernel
theorem d_Keys_pairsBy_12 : decode prog_5_method_4_code 12 = .ok (.iand, 1) := by decide +kernel
theorem d_Keys_pairsBy_13 : decode prog_5_method_4_code 13 = .ok (.ifCond .eq 12, 3) := by decide +kernel
theorem d_Keys_pairsBy_16 : decode prog_5_method_4_code 16 = .ok (.iload_n 2, 1) := by decide +kernel
theorem d_Keys_pairsBy_17 : decode prog_5_method_4_code 17 = .ok (.aload_n 0, 1) := by decide +kernel
theorem d_Keys_pairsBy_18 : decode prog_5_method_4_code 18 = .ok (.getfield 9, 3) := by decide +kernel
theorem d_Keys_pairsBy_21 : decode prog_5_method_4_code 21 = .ok (.iload_n 3, 1) := by decide +kernel
theorem d_Keys_pairsBy_22 : decode prog_5_method_4_code 22 = .ok (.iaload, 1) := by decide +kernel
theorem d_Keys_pairsBy_23 : decode prog_5_method_4_code 23 = .ok (.iadd, 1) := by decide +kernel
theorem d_Keys_pairsBy_24 : decode prog_5_method_4_code 24 = .ok (.istore_n 2, 1) := by decide +kernel
theorem d_Keys_pairsBy_25 : decode prog_5_method_4_code 25 = .ok (.iinc 3 1, 3) := by decide +kernel
theorem d_Keys_pairsBy_28 : decode prog_5_method_4_code 28 = .ok (.goto (-24), 3) := by decide +kernel
theorem d_O_pairs_32 : decode prog_1_method_33_code 32 = .ok (.ireturn, 1) := by decide +kernel
theorem d_O_keys_0 : decode prog_1_method_34_code 0 = .ok (.aload_n 0, 1) := by decide +kernel
theorem d_O_keys_1 : decode prog_1_method_34_code 1 = .ok (.getfield 74, 3) := by decide +kernel
theorem d_O_keys_4 : decode prog_1_method_34_code 4 = .ok (.aload_n 0, 1) := by decide +kernel
theorem d_O_keys_5 : decode prog_1_method_34_code 5 = .ok (.getfield 19, 3) := by decide +kernel
theorem d_O_keys_8 : decode prog_1_method_34_code 8 = .ok (.invokevirtual 305, 3) := by decide +kernel
theorem d_O_keys_11 : decode prog_1_method_34_code 11 = .ok (.aload_n 0, 1) := by decide +kernel
theorem d_O_keys_12 : decode prog_1_method_34_code 12 = .ok (.getfield 74, 3) := by decide +kernel
theorem d_O_keys_15 : decode prog_1_method_34_code 15 = .ok (.aload_n 0, 1) := by decide +kernel
theorem d_O_keys_16 : decode prog_1_method_34_code 16 = .ok (.getfield 19, 3) := by decide +kernel
theorem d_O_keys_19 : decode prog_1_method_34_code 19 = .ok (.aload_n 0, 1) := by decide +kernel
theorem d_O_keys_20 : decode prog_1_method_34_code 20 = .ok (.getfield 67, 3) := by decide +kernel
theorem d_O_keys_23 : decode prog_1_method_34_code 23 = .ok (.invokevirtual 311, 3) := by decide +kernel
theorem d_Keys_demand_0 : decode prog_5_method_3_code 0 = .ok (.iconst 0, 1) := by decide +kernel
theorem d_Keys_demand_1 : decode prog_5_method_3_code 1 = .ok (.istore_n 3, 1) := by decide +kernel
theorem d_Keys_demand_2 : decode prog_5_method_3_code 2 = .ok (.iload_n 3, 1) := by decide +kernel
theorem d_Keys_demand_3 : decode prog_5_method_3_code 3 = .ok (.bipush 63, 2) := by decide +kernel
theorem d_Keys_demand_5 : decode prog_5_method_3_code 5 = .ok (.if_icmp .gt 16, 3) := by decide +kernel
theorem d_Keys_demand_21 : decode prog_5_method_3_code 21 = .ok (.iconst 0, 1) := by decide +kernel
theorem d_Keys_demand_22 : decode prog_5_method_3_code 22 = .ok (.istore_n 3, 1) := by decide +kernel
theorem d_Keys_demand_8 : decode prog_5_method_3_code 8 = .ok (.aload_n 0, 1) := by decide +kernel
theorem d_Keys_demand_9 : decode prog_5_method_3_code 9 = .ok (.getfield 15, 3) := by decide +kernel
theorem d_Keys_demand_12 : decode prog_5_method_3_code 12 = .ok (.iload_n 3, 1) := by decide +kernel
theorem d_Keys_demand_13 : decode prog_5_method_3_code 13 = .ok (.iconst 0, 1) := by decide +kernel
theorem d_Keys_demand_14 : decode prog_5_method_3_code 14 = .ok (.bastore, 1) := by decide +kernel
theorem d_Keys_demand_15 : decode prog_5_method_3_code 15 = .ok (.iinc 3 1, 3) := by decide +kernel
theorem d_Keys_demand_18 : decode prog_5_method_3_code 18 = .ok (.goto (-16), 3) := by decide +kernel
theorem d_Keys_demand_23 : decode prog_5_method_3_code 23 = .ok (.iload_n 3, 1) := by decide +kernel
theorem d_Keys_demand_24 : decode prog_5_method_3_code 24 = .ok (.aload_n 2, 1) := by decide +kernel
theorem d_Keys_demand_25 : decode prog_5_method_3_code 25 = .ok (.getfield 48, 3) := by decide +kernel
theorem d_Keys_demand_28 : decode prog_5_method_3_code 28 = .ok (.if_icmp .ge 76, 3) := by decide +kernel
theorem d_Keys_demand_104 : decode prog_5_method_3_code 104 = .ok (.return_, 1) := by decide +kernel
theorem d_Keys_demand_31 : decode prog_5_method_3_code 31 = .ok (.aload_n 2, 1) := by decide +kernel
theorem d_Keys_demand_32 : decode prog_5_method_3_code 32 = .ok (.getfield 51, 3) := by decide +kernel
theorem d_Keys_demand_35 : decode prog_5_method_3_code 35 = .ok (.iload_n 3, 1) := by decide +kernel
theorem d_Keys_demand_36 : decode prog_5_method_3_code 36 = .ok (.iaload, 1) := by decide +kernel
theorem d_Keys_demand_37 : decode prog_5_method_3_code 37 = .ok (.istore 4, 2) := by decide +kernel
theorem d_Keys_demand_39 : decode prog_5_method_3_code 39 = .ok (.aload_n 2, 1) := by decide +kernel
theorem d_Keys_demand_40 : decode prog_5_method_3_code 40 = .ok (.getfield 54, 3) := by decide +kernel
theorem d_Keys_demand_43 : decode prog_5_method_3_code 43 = .ok (.iload_n 3, 1) := by decide +kernel
theorem d_Keys_demand_44 : decode prog_5_method_3_code 44 = .ok (.iaload, 1) := by decide +kernel
theorem d_Keys_demand_45 : decode prog_5_method_3_code 45 = .ok (.istore 5, 2) := by decide +kernel
theorem d_Keys_demand_47 : decode prog_5_method_3_code 47 = .ok (.aload_n 2, 1) := by decide +kernel
theorem d_Keys_demand_48 : decode prog_5_method_3_code 48 = .ok (.getfield 57, 3) := by decide +kernel
theorem d_Keys_demand_51 : decode prog_5_method_3_code 51 = .ok (.iload_n 3, 1) := by decide +kernel
theorem d_Keys_demand_52 : decode prog_5_method_3_code 52 = .ok (.baload, 1) := by decide +kernel
theorem d_Keys_demand_53 : decode prog_5_method_3_code 53 = .ok (.ifCond .eq 45, 3) := by decide +kernel
theorem d_Keys_demand_56 : decode prog_5_method_3_code 56 = .ok (.aload_n 1, 1) := by decide +kernel
theorem d_Keys_demand_57 : decode prog_5_method_3_code 57 = .ok (.getfield 25, 3) := by decide +kernel
theorem d_Keys_demand_60 : decode prog_5_method_3_code 60 = .ok (.iload 4, 2) := by decide +kernel
theorem d_Keys_demand_62 : decode prog_5_method_3_code 62 = .ok (.iload 5, 2) := by decide +kernel
theorem d_Keys_demand_64 : decode prog_5_method_3_code 64 = .ok (.invokevirtual 37, 3) := by decide +kernel
theorem d_Keys_demand_67 : decode prog_5_method_3_code 67 = .ok (.ifCond .eq 31, 3) := by decide +kernel
theorem d_Keys_demand_70 : decode prog_5_method_3_code 70 = .ok (.aload_n 1, 1) := by decide +kernel
theorem d_Keys_demand_71 : decode prog_5_method_3_code 71 = .ok (.getfield 25, 3) := by decide +kernel
theorem d_Keys_demand_74 : decode prog_5_method_3_code 74 = .ok (.iload 4, 2) := by decide +kernel
theorem d_Keys_demand_76 : decode prog_5_method_3_code 76 = .ok (.iload 5, 2) := by decide +kernel
theorem d_Keys_demand_78 : decode prog_5_method_3_code 78 = .ok (.invokevirtual 41, 3) := by decide +kernel
theorem d_Keys_demand_81 : decode prog_5_method_3_code 81 = .ok (.ifCond .eq 17, 3) := by decide +kernel
theorem d_Keys_demand_84 : decode prog_5_method_3_code 84 = .ok (.aload_n 0, 1) := by decide +kernel
theorem d_Keys_demand_85 : decode prog_5_method_3_code 85 = .ok (.getfield 15, 3) := by decide +kernel
theorem d_Keys_demand_88 : decode prog_5_method_3_code 88 = .ok (.aload_n 1, 1) := by decide +kernel
theorem d_Keys_demand_89 : decode prog_5_method_3_code 89 = .ok (.iload 4, 2) := by decide +kernel
theorem d_Keys_demand_91 : decode prog_5_method_3_code 91 = .ok (.iload 5, 2) := by decide +kernel
theorem d_Keys_demand_93 : decode prog_5_method_3_code 93 = .ok (.invokevirtual 44, 3) := by decide +kernel
theorem d_Keys_demand_96 : decode prog_5_method_3_code 96 = .ok (.iconst 1, 1) := by decide +kernel
theorem d_Keys_demand_97 : decode prog_5_method_3_code 97 = .ok (.bastore, 1) := by decide +kernel
theorem d_Keys_demand_98 : decode prog_5_method_3_code 98 = .ok (.iinc 3 1, 3) := by decide +kernel
theorem d_Keys_demand_101 : decode prog_5_method_3_code 101 = .ok (.goto (-78), 3) := by decide +kernel
theorem d_O_keys_26 : decode prog_1_method_34_code 26 = .ok (.aload_n 0, 1) := by decide +kernel
theorem d_O_keys_27 : decode prog_1_method_34_code 27 = .ok (.getfield 74, 3) := by decide +kernel
theorem d_O_keys_30 : decode prog_1_method_34_code 30 = .ok (.invokevirtual 315, 3) := by decide +kernel
theorem d_Keys_best_0 : decode prog_5_method_6_code 0 = .ok (.iconst (-1), 1) := by decide +kernel
theorem d_Keys_best_1 : decode prog_5_method_6_code 1 = .ok (.istore_n 1, 1) := by decide +kernel
theorem d_Keys_best_2 : decode prog_5_method_6_code 2 = .ok (.iconst 0, 1) := by decide +kernel
theorem d_Keys_best_3 : decode prog_5_method_6_code 3 = .ok (.istore_n 2, 1) := by decide +kernel
theorem d_Keys_best_4 : decode prog_5_method_6_code 4 = .ok (.iload_n 2, 1) := by decide +kernel
theorem d_Keys_best_5 : decode prog_5_method_6_code 5 = .ok (.bipush 63, 2) := by decide +kernel
theorem d_Keys_best_7 : decode prog_5_method_6_code 7 = .ok (.if_icmp .gt 33, 3) := by decide +kernel
theorem d_Keys_best_40 : decode prog_5_method_6_code 40 = .ok (.iload_n 1, 1) := by decide +kernel
theorem d_Keys_best_41 : decode prog_5_method_6_code 41 = .ok (.ireturn, 1) := by decide +kernel
theorem d_Keys_best_10 : decode prog_5_method_6_code 10 = .ok (.aload_n 0, 1) := by decide +kernel
theorem d_Keys_best_11 : decode prog_5_method_6_code 11 = .ok (.iload_n 2, 1) := by decide +kernel
theorem d_Keys_best_12 : decode prog_5_method_6_code 12 = .ok (.invokevirtual 60, 3) := by decide +kernel
theorem d_Keys_missNone_0 : decode prog_5_method_5_code 0 = .ok (.iconst 0, 1) := by decide +kernel
theorem d_Keys_missNone_1 : decode prog_5_method_5_code 1 = .ok (.istore_n 2, 1) := by decide +kernel
theorem d_Keys_missNone_2 : decode prog_5_method_5_code 2 = .ok (.iload_n 2, 1) := by decide +kernel
theorem d_Keys_missNone_3 : decode prog_5_method_5_code 3 = .ok (.bipush 63, 2) := by decide +kernel
theorem d_Keys_missNone_5 : decode prog_5_method_5_code 5 = .ok (.if_icmp .gt 26, 3) := by decide +kernel
theorem d_Keys_missNone_31 : decode prog_5_method_5_code 31 = .ok (.iconst 1, 1) := by decide +kernel
theorem d_Keys_missNone_32 : decode prog_5_method_5_code 32 = .ok (.ireturn, 1) := by decide +kernel
theorem d_Keys_missNone_8 : decode prog_5_method_5_code 8 = .ok (.aload_n 0, 1) := by decide +kernel
theorem d_Keys_missNone_9 : decode prog_5_method_5_code 9 = .ok (.getfield 15, 3) := by decide +kernel
theorem d_Keys_missNone_12 : decode prog_5_method_5_code 12 = .ok (.iload_n 2, 1) := by decide +kernel
theorem d_Keys_missNone_13 : decode prog_5_method_5_code 13 = .ok (.baload, 1) := by decide +kernel
theorem d_Keys_missNone_14 : decode prog_5_method_5_code 14 = .ok (.ifCond .eq 11, 3) := by decide +kernel
theorem d_Keys_missNone_17 : decode prog_5_method_5_code 17 = .ok (.iload_n 2, 1) := by decide +kernel
theorem d_Keys_missNone_18 : decode prog_5_method_5_code 18 = .ok (.iload_n 1, 1) := by decide +kernel
theorem d_Keys_missNone_19 : decode prog_5_method_5_code 19 = .ok (.iand, 1) := by decide +kernel
theorem d_Keys_missNone_20 : decode prog_5_method_5_code 20 = .ok (.ifCond .ne 5, 3) := by decide +kernel
theorem d_Keys_missNone_23 : decode prog_5_method_5_code 23 = .ok (.iconst 0, 1) := by decide +kernel
theorem d_Keys_missNone_24 : decode prog_5_method_5_code 24 = .ok (.ireturn, 1) := by decide +kernel
theorem d_Keys_missNone_25 : decode prog_5_method_5_code 25 = .ok (.iinc 2 1, 3) := by decide +kernel
theorem d_Keys_missNone_28 : decode prog_5_method_5_code 28 = .ok (.goto (-26), 3) := by decide +kernel
theorem d_Keys_best_15 : decode prog_5_method_6_code 15 = .ok (.ifCond .eq 19, 3) := by decide +kernel
theorem d_Keys_best_18 : decode prog_5_method_6_code 18 = .ok (.iload_n 1, 1) := by decide +kernel
theorem d_Keys_best_19 : decode prog_5_method_6_code 19 = .ok (.iconst (-1), 1) := by decide +kernel
theorem d_Keys_best_20 : decode prog_5_method_6_code 20 = .ok (.if_icmp .eq 12, 3) := by decide +kernel
theorem d_Keys_best_23 : decode prog_5_method_6_code 23 = .ok (.aload_n 0, 1) := by decide +kernel
theorem d_Keys_best_24 : decode prog_5_method_6_code 24 = .ok (.iload_n 2, 1) := by decide +kernel
theorem d_Keys_best_25 : decode prog_5_method_6_code 25 = .ok (.iload_n 1, 1) := by decide +kernel
theorem d_Keys_best_26 : decode prog_5_method_6_code 26 = .ok (.invokevirtual 64, 3) := by decide +kernel
theorem d_Keys_isBetter_0 : decode prog_5_method_7_code 0 = .ok (.aload_n 0, 1) := by decide +kernel
theorem d_Keys_isBetter_1 : decode prog_5_method_7_code 1 = .ok (.iload_n 2, 1) := by decide +kernel
theorem d_Keys_isBetter_2 : decode prog_5_method_7_code 2 = .ok (.invokevirtual 67, 3) := by decide +kernel
theorem d_Keys_isBetter_5 : decode prog_5_method_7_code 5 = .ok (.aload_n 0, 1) := by decide +kernel
theorem d_Keys_isBetter_6 : decode prog_5_method_7_code 6 = .ok (.iload_n 1, 1) := by decide +kernel
theorem d_Keys_isBetter_7 : decode prog_5_method_7_code 7 = .ok (.invokevirtual 67, 3) := by decide +kernel
theorem d_Keys_isBetter_10 : decode prog_5_method_7_code 10 = .ok (.isub, 1) := by decide +kernel
theorem d_Keys_isBetter_11 : decode prog_5_method_7_code 11 = .ok (.istore_n 3, 1) := by decide +kernel
theorem d_Keys_isBetter_12 : decode prog_5_method_7_code 12 = .ok (.iload_n 3, 1) := by decide +kernel
theorem d_Keys_isBetter_13 : decode prog_5_method_7_code 13 = .ok (.ifCond .eq 13, 3) := by decide +kernel
theorem d_Keys_isBetter_26 : decode prog_5_method_7_code 26 = .ok (.iload_n 1, 1) := by decide +kernel
theorem d_Keys_isBetter_27 : decode prog_5_method_7_code 27 = .ok (.invokestatic 71, 3) := by decide +kernel
theorem d_Integer_bitCount_0 : decode prog_15_method_49_code 0 = .ok (.iload_n 0, 1) := by decide +kernel
theorem d_Integer_bitCount_1 : decode prog_15_method_49_code 1 = .ok (.iload_n 0, 1) := by decide +kernel
theorem d_Integer_bitCount_2 : decode prog_15_method_49_code 2 = .ok (.iconst 1, 1) := by decide +kernel
theorem d_Integer_bitCount_3 : decode prog_15_method_49_code 3 = .ok (.iushr, 1) := by decide +kernel
theorem d_Integer_bitCount_4 : decode prog_15_method_49_code 4 = .ok (.ldc_w 265, 3) := by decide +kernel
theorem d_Integer_bitCount_7 : decode prog_15_method_49_code 7 = .ok (.iand, 1) := by decide +kernel
theorem d_Integer_bitCount_8 : decode prog_15_method_49_code 8 = .ok (.isub, 1) := by decide +kernel
theorem d_Integer_bitCount_9 : decode prog_15_method_49_code 9 = .ok (.istore_n 0, 1) := by decide +kernel
theorem d_Integer_bitCount_10 : decode prog_15_method_49_code 10 = .ok (.iload_n 0, 1) := by decide +kernel
theorem d_Integer_bitCount_11 : decode prog_15_method_49_code 11 = .ok (.ldc_w 266, 3) := by decide +kernel
theorem d_Integer_bitCount_14 : decode prog_15_method_49_code 14 = .ok (.iand, 1) := by decide +kernel
theorem d_Integer_bitCount_15 : decode prog_15_method_49_code 15 = .ok (.iload_n 0, 1) := by decide +kernel
theorem d_Integer_bitCount_16 : decode prog_15_method_49_code 16 = .ok (.iconst 2, 1) := by decide +kernel
theorem d_Integer_bitCount_17 : decode prog_15_method_49_code 17 = .ok (.iushr, 1) := by decide +kernel
theorem d_Integer_bitCount_18 : decode prog_15_method_49_code 18 = .ok (.ldc_w 266, 3) := by decide +kernel
theorem d_Integer_bitCount_21 : decode prog_15_method_49_code 21 = .ok (.iand, 1) := by decide +kernel
theorem d_Integer_bitCount_22 : decode prog_15_method_49_code 22 = .ok (.iadd, 1) := by decide +kernel
theorem d_Integer_bitCount_23 : decode prog_15_method_49_code 23 = .ok (.istore_n 0, 1) := by decide +kernel
theorem d_Integer_bitCount_24 : decode prog_15_method_49_code 24 = .ok (.iload_n 0, 1) := by decide +kernel
theorem d_Integer_bitCount_25 : decode prog_15_method_49_code 25 = .ok (.iload_n 0, 1) := by decide +kernel
theorem d_Integer_bitCount_26 : decode prog_15_method_49_code 26 = .ok (.iconst 4, 1) := by decide +kernel
theorem d_Integer_bitCount_27 : decode prog_15_method_49_code 27 = .ok (.iushr, 1) := by decide +kernel
theorem d_Integer_bitCount_28 : decode prog_15_method_49_code 28 = .ok (.iadd, 1) := by decide +kernel
theorem d_Integer_bitCount_29 : decode prog_15_method_49_code 29 = .ok (.ldc_w 267, 3) := by decide +kernel
theorem d_Integer_bitCount_32 : decode prog_15_method_49_code 32 = .ok (.iand, 1) := by decide +kernel
theorem d_Integer_bitCount_33 : decode prog_15_method_49_code 33 = .ok (.istore_n 0, 1) := by decide +kernel
theorem d_Integer_bitCount_34 : decode prog_15_method_49_code 34 = .ok (.iload_n 0, 1) := by decide +kernel
theorem d_Integer_bitCount_35 : decode prog_15_method_49_code 35 = .ok (.iload_n 0, 1) := by decide +kernel
theorem d_Integer_bitCount_36 : decode prog_15_method_49_code 36 = .ok (.bipush 8, 2) := by decide +kernel
theorem d_Integer_bitCount_38 : decode prog_15_method_49_code 38 = .ok (.iushr, 1) := by decide +kernel
theorem d_Integer_bitCount_39 : decode prog_15_method_49_code 39 = .ok (.iadd, 1) := by decide +kernel
theorem d_Integer_bitCount_40 : decode prog_15_method_49_code 40 = .ok (.istore_n 0, 1) := by decide +kernel
theorem d_Integer_bitCount_41 : decode prog_15_method_49_code 41 = .ok (.iload_n 0, 1) := by decide +kernel
theorem d_Integer_bitCount_42 : decode prog_15_method_49_code 42 = .ok (.iload_n 0, 1) := by decide +kernel
theorem d_Integer_bitCount_43 : decode prog_15_method_49_code 43 = .ok (.bipush 16, 2) := by decide +kernel
theorem d_Integer_bitCount_45 : decode prog_15_method_49_code 45 = .ok (.iushr, 1) := by decide +kernel
theorem d_Integer_bitCount_46 : decode prog_15_method_49_code 46 = .ok (.iadd, 1) := by decide +kernel
theorem d_Integer_bitCount_47 : decode prog_15_method_49_code 47 = .ok (.istore_n 0, 1) := by decide +kernel
theorem d_Integer_bitCount_48 : decode prog_15_method_49_code 48 = .ok (.iload_n 0, 1) := by decide +kernel
theorem d_Integer_bitCount_49 : decode prog_15_method_49_code 49 = .ok (.bipush 63, 2) := by decide +kernel
theorem d_Integer_bitCount_51 : decode prog_15_method_49_code 51 = .ok (.iand, 1) := by decide +kernel
theorem d_Integer_bitCount_52 : decode prog_15_method_49_code 52 = .ok (.ireturn, 1) := by decide +kernel
theorem d_Keys_isBetter_30 : decode prog_5_method_7_code 30 = .ok (.iload_n 2, 1) := by decide +kernel
theorem d_Keys_isBetter_31 : decode prog_5_method_7_code 31 = .ok (.invokestatic 71, 3) := by decide +kernel
theorem d_Keys_isBetter_34 : decode prog_5_method_7_code 34 = .ok (.if_icmp .ge 7, 3) := by decide +kernel
theorem d_Keys_isBetter_41 : decode prog_5_method_7_code 41 = .ok (.iconst 0, 1) := by decide +kernel
theorem d_Keys_isBetter_42 : decode prog_5_method_7_code 42 = .ok (.ireturn, 1) := by decide +kernel
theorem d_Keys_isBetter_37 : decode prog_5_method_7_code 37 = .ok (.iconst 1, 1) := by decide +kernel
theorem d_Keys_isBetter_38 : decode prog_5_method_7_code 38 = .ok (.goto 4, 3) := by decide +kernel
theorem d_Keys_isBetter_16 : decode prog_5_method_7_code 16 = .ok (.iload_n 3, 1) := by decide +kernel
theorem d_Keys_isBetter_17 : decode prog_5_method_7_code 17 = .ok (.ifCond .le 7, 3) := by decide +kernel
theorem d_Keys_isBetter_24 : decode prog_5_method_7_code 24 = .ok (.iconst 0, 1) := by decide +kernel
theorem d_Keys_isBetter_25 : decode prog_5_method_7_code 25 = .ok (.ireturn, 1) := by decide +kernel
theorem d_Keys_isBetter_20 : decode prog_5_method_7_code 20 = .ok (.iconst 1, 1) := by decide +kernel
theorem d_Keys_isBetter_21 : decode prog_5_method_7_code 21 = .ok (.goto 4, 3) := by decide +kernel
theorem d_Keys_best_29 : decode prog_5_method_6_code 29 = .ok (.ifCond .eq 5, 3) := by decide +kernel
theorem d_Keys_best_34 : decode prog_5_method_6_code 34 = .ok (.iinc 2 1, 3) := by decide +kernel
theorem d_Keys_best_37 : decode prog_5_method_6_code 37 = .ok (.goto (-33), 3) := by decide +kernel
theorem d_Keys_best_32 : decode prog_5_method_6_code 32 = .ok (.iload_n 2, 1) := by decide +kernel
theorem d_Keys_best_33 : decode prog_5_method_6_code 33 = .ok (.istore_n 1, 1) := by decide +kernel
theorem d_O_keys_33 : decode prog_1_method_34_code 33 = .ok (.ireturn, 1) := by decide +kernel
theorem d_O_sheet_0 : decode prog_1_method_35_code 0 = .ok (.iload_n 1, 1) := by decide +kernel
theorem d_O_sheet_1 : decode prog_1_method_35_code 1 = .ok (.invokestatic 92, 3) := by decide +kernel
theorem d_O_sheet_4 : decode prog_1_method_35_code 4 = .ok (.ifCond .eq 16, 3) := by decide +kernel
theorem d_O_sheet_20 : decode prog_1_method_35_code 20 = .ok (.bipush (-2), 2) := by decide +kernel
theorem d_O_sheet_22 : decode prog_1_method_35_code 22 = .ok (.ireturn, 1) := by decide +kernel
theorem d_O_sheet_7 : decode prog_1_method_35_code 7 = .ok (.iload_n 2, 1) := by decide +kernel
theorem d_O_sheet_8 : decode prog_1_method_35_code 8 = .ok (.invokestatic 318, 3) := by decide +kernel
theorem d_Sheets_isType_0 : decode prog_9_method_3_code 0 = .ok (.iload_n 0, 1) := by decide +kernel
theorem d_Sheets_isType_1 : decode prog_9_method_3_code 1 = .ok (.iconst 3, 1) := by decide +kernel
theorem d_Sheets_isType_2 : decode prog_9_method_3_code 2 = .ok (.invokestatic 27, 3) := by decide +kernel
theorem d_Sheets_isType_5 : decode prog_9_method_3_code 5 = .ok (.ireturn, 1) := by decide +kernel
theorem d_O_sheet_11 : decode prog_1_method_35_code 11 = .ok (.ifCond .eq 9, 3) := by decide +kernel
theorem d_O_sheet_14 : decode prog_1_method_35_code 14 = .ok (.iload_n 3, 1) := by decide +kernel
theorem d_O_sheet_15 : decode prog_1_method_35_code 15 = .ok (.bipush 40, 2) := by decide +kernel
theorem d_O_sheet_17 : decode prog_1_method_35_code 17 = .ok (.if_icmp .le 6, 3) := by decide +kernel
theorem d_O_sheet_23 : decode prog_1_method_35_code 23 = .ok (.iload_n 3, 1) := by decide +kernel
theorem d_O_sheet_24 : decode prog_1_method_35_code 24 = .ok (.ifCond .ge 12, 3) := by decide +kernel
theorem d_O_sheet_36 : decode prog_1_method_35_code 36 = .ok (.aload_n 0, 1) := by decide +kernel
theorem d_O_sheet_37 : decode prog_1_method_35_code 37 = .ok (.getfield 10, 3) := by decide +kernel
theorem d_O_sheet_40 : decode prog_1_method_35_code 40 = .ok (.iload_n 1, 1) := by decide +kernel
theorem d_O_sheet_41 : decode prog_1_method_35_code 41 = .ok (.iload_n 2, 1) := by decide +kernel
theorem d_O_sheet_42 : decode prog_1_method_35_code 42 = .ok (.iload_n 3, 1) := by decide +kernel
theorem d_O_sheet_43 : decode prog_1_method_35_code 43 = .ok (.invokevirtual 321, 3) := by decide +kernel
theorem d_Sheets_renew_0 : decode prog_9_method_14_code 0 = .ok (.aload_n 0, 1) := by decide +kernel
theorem d_Sheets_renew_1 : decode prog_9_method_14_code 1 = .ok (.getfield 11, 3) := by decide +kernel
theorem d_Sheets_renew_4 : decode prog_9_method_14_code 4 = .ok (.iload_n 1, 1) := by decide +kernel
theorem d_Sheets_renew_5 : decode prog_9_method_14_code 5 = .ok (.iload_n 2, 1) := by decide +kernel
theorem d_Sheets_renew_6 : decode prog_9_method_14_code 6 = .ok (.iastore, 1) := by decide +kernel
theorem d_Sheets_renew_7 : decode prog_9_method_14_code 7 = .ok (.aload_n 0, 1) := by decide +kernel
theorem d_Sheets_renew_8 : decode prog_9_method_14_code 8 = .ok (.getfield 15, 3) := by decide +kernel
theorem d_Sheets_renew_11 : decode prog_9_method_14_code 11 = .ok (.iload_n 1, 1) := by decide +kernel
theorem d_Sheets_renew_12 : decode prog_9_method_14_code 12 = .ok (.iload_n 3, 1) := by decide +kernel
theorem d_Sheets_renew_13 : decode prog_9_method_14_code 13 = .ok (.iastore, 1) := by decide +kernel
theorem d_Sheets_renew_14 : decode prog_9_method_14_code 14 = .ok (.iconst 0, 1) := by decide +kernel
theorem d_Sheets_renew_15 : decode prog_9_method_14_code 15 = .ok (.istore 4, 2) := by decide +kernel
theorem d_Sheets_renew_17 : decode prog_9_method_14_code 17 = .ok (.iload 4, 2) := by decide +kernel
theorem d_Sheets_renew_19 : decode prog_9_method_14_code 19 = .ok (.iload_n 3, 1) := by decide +kernel
theorem d_Sheets_renew_20 : decode prog_9_method_14_code 20 = .ok (.if_icmp .ge 22, 3) := by decide +kernel
theorem d_Sheets_renew_42 : decode prog_9_method_14_code 42 = .ok (.return_, 1) := by decide +kernel
theorem d_Sheets_renew_23 : decode prog_9_method_14_code 23 = .ok (.aload_n 0, 1) := by decide +kernel
theorem d_Sheets_renew_24 : decode prog_9_method_14_code 24 = .ok (.getfield 18, 3) := by decide +kernel
theorem d_Sheets_renew_27 : decode prog_9_method_14_code 27 = .ok (.iload_n 1, 1) := by decide +kernel
theorem d_Sheets_renew_28 : decode prog_9_method_14_code 28 = .ok (.bipush 40, 2) := by decide +kernel
theorem d_Sheets_renew_30 : decode prog_9_method_14_code 30 = .ok (.imul, 1) := by decide +kernel
theorem d_Sheets_renew_31 : decode prog_9_method_14_code 31 = .ok (.iload 4, 2) := by decide +kernel
theorem d_Sheets_renew_33 : decode prog_9_method_14_code 33 = .ok (.iadd, 1) := by decide +kernel
theorem d_Sheets_renew_34 : decode prog_9_method_14_code 34 = .ok (.iconst 0, 1) := by decide +kernel
theorem d_Sheets_renew_35 : decode prog_9_method_14_code 35 = .ok (.iastore, 1) := by decide +kernel
theorem d_Sheets_renew_36 : decode prog_9_method_14_code 36 = .ok (.iinc 4 1, 3) := by decide +kernel
theorem d_Sheets_renew_39 : decode prog_9_method_14_code 39 = .ok (.goto (-22), 3) := by decide +kernel
theorem d_O_sheet_46 : decode prog_1_method_35_code 46 = .ok (.iload_n 3, 1) := by decide +kernel
theorem d_O_sheet_47 : decode prog_1_method_35_code 47 = .ok (.ireturn, 1) := by decide +kernel
theorem d_O_sheet_27 : decode prog_1_method_35_code 27 = .ok (.aload_n 0, 1) := by decide +kernel
theorem d_O_sheet_28 : decode prog_1_method_35_code 28 = .ok (.getfield 10, 3) := by decide +kernel
theorem d_O_sheet_31 : decode prog_1_method_35_code 31 = .ok (.iconst 5, 1) := by decide +kernel
theorem d_O_sheet_32 : decode prog_1_method_35_code 32 = .ok (.invokevirtual 102, 3) := by decide +kernel
theorem d_O_sheet_35 : decode prog_1_method_35_code 35 = .ok (.ireturn, 1) := by decide +kernel
theorem d_O_lose_0 : decode prog_1_method_36_code 0 = .ok (.iload_n 1, 1) := by decide +kernel
theorem d_O_lose_1 : decode prog_1_method_36_code 1 = .ok (.invokestatic 92, 3) := by decide +kernel
theorem d_O_lose_4 : decode prog_1_method_36_code 4 = .ok (.ifCond .ne 6, 3) := by decide +kernel
theorem d_O_lose_7 : decode prog_1_method_36_code 7 = .ok (.bipush (-2), 2) := by decide +kernel
theorem d_O_lose_9 : decode prog_1_method_36_code 9 = .ok (.ireturn, 1) := by decide +kernel
theorem d_O_lose_10 : decode prog_1_method_36_code 10 = .ok (.aload_n 0, 1) := by decide +kernel
theorem d_O_lose_11 : decode prog_1_method_36_code 11 = .ok (.getfield 10, 3) := by decide +kernel
theorem d_O_lose_14 : decode prog_1_method_36_code 14 = .ok (.iload_n 1, 1) := by decide +kernel
theorem d_O_lose_15 : decode prog_1_method_36_code 15 = .ok (.invokevirtual 99, 3) := by decide +kernel
theorem d_O_lose_18 : decode prog_1_method_36_code 18 = .ok (.ifCond .eq 12, 3) := by decide +kernel
theorem d_O_lose_30 : decode prog_1_method_36_code 30 = .ok (.aload_n 0, 1) := by decide +kernel
theorem d_O_lose_31 : decode prog_1_method_36_code 31 = .ok (.getfield 10, 3) := by decide +kernel
theorem d_O_lose_34 : decode prog_1_method_36_code 34 = .ok (.iload_n 1, 1) := by decide +kernel
theorem d_O_lose_35 : decode prog_1_method_36_code 35 = .ok (.invokevirtual 325, 3) := by decide +kernel
theorem d_Sheets_forget_0 : decode prog_9_method_15_code 0 = .ok (.aload_n 0, 1) := by decide +kernel
theorem d_Sheets_forget_1 : decode prog_9_method_15_code 1 = .ok (.getfield 11, 3) := by decide +kernel
theorem d_Sheets_forget_4 : decode prog_9_method_15_code 4 = .ok (.iload_n 1, 1) := by decide +kernel
theorem d_Sheets_forget_5 : decode prog_9_method_15_code 5 = .ok (.iconst (-1), 1) := by decide +kernel
theorem d_Sheets_forget_6 : decode prog_9_method_15_code 6 = .ok (.iastore, 1) := by decide +kernel
theorem d_Sheets_forget_7 : decode prog_9_method_15_code 7 = .ok (.aload_n 0, 1) := by decide +kernel
theorem d_Sheets_forget_8 : decode prog_9_method_15_code 8 = .ok (.getfield 15, 3) := by decide +kernel
theorem d_Sheets_forget_11 : decode prog_9_method_15_code 11 = .ok (.iload_n 1, 1) := by decide +kernel
theorem d_Sheets_forget_12 : decode prog_9_method_15_code 12 = .ok (.iaload, 1) := by decide +kernel
theorem d_Sheets_forget_13 : decode prog_9_method_15_code 13 = .ok (.ireturn, 1) := by decide +kernel
theorem d_O_lose_38 : decode prog_1_method_36_code 38 = .ok (.ireturn, 1) := by decide +kernel
theorem d_O_lose_21 : decode prog_1_method_36_code 21 = .ok (.aload_n 0, 1) := by decide +kernel
theorem d_O_lose_22 : decode prog_1_method_36_code 22 = .ok (.getfield 10, 3) := by decide +kernel
theorem d_O_lose_25 : decode prog_1_method_36_code 25 = .ok (.iconst 1, 1) := by decide +kernel
theorem d_O_lose_26 : decode prog_1_method_36_code 26 = .ok (.invokevirtual 102, 3) := by decide +kernel
theorem d_O_lose_29 : decode prog_1_method_36_code 29 = .ok (.ireturn, 1) := by decide +kernel
theorem d_O_put_0 : decode prog_1_method_37_code 0 = .ok (.iload_n 1, 1) := by decide +kernel
theorem d_O_put_1 : decode prog_1_method_37_code 1 = .ok (.invokestatic 92, 3) := by decide +kernel
theorem d_O_put_4 : decode prog_1_method_37_code 4 = .ok (.ifCond .eq 10, 3) := by decide +kernel
theorem d_O_put_14 : decode prog_1_method_37_code 14 = .ok (.bipush (-2), 2) := by decide +kernel
theorem d_O_put_16 : decode prog_1_method_37_code 16 = .ok (.ireturn, 1) := by decide +kernel
theorem d_O_put_7 : decode prog_1_method_37_code 7 = .ok (.iload_n 2, 1) := by decide +kernel
theorem d_O_put_8 : decode prog_1_method_37_code 8 = .ok (.invokestatic 318, 3) := by decide +kernel
theorem d_O_put_11 : decode prog_1_method_37_code 11 = .ok (.ifCond .ne 6, 3) := by decide +kernel
theorem d_O_put_17 : decode prog_1_method_37_code 17 = .ok (.aload_n 0, 1) := by decide +kernel
theorem d_O_put_18 : decode prog_1_method_37_code 18 = .ok (.getfield 10, 3) := by decide +kernel
theorem d_O_put_21 : decode prog_1_method_37_code 21 = .ok (.iload_n 1, 1) := by decide +kernel
theorem d_O_put_22 : decode prog_1_method_37_code 22 = .ok (.iload_n 2, 1) := by decide +kernel
theorem d_O_put_23 : decode prog_1_method_37_code 23 = .ok (.iload_n 3, 1) := by decide +kernel
theorem d_O_put_24 : decode prog_1_method_37_code 24 = .ok (.invokevirtual 328, 3) := by decide +kernel
theorem d_Sheets_hindrance_0 : decode prog_9_method_9_code 0 = .ok (.aload_n 0, 1) := by decide +kernel
theorem d_Sheets_hindrance_1 : decode prog_9_method_9_code 1 = .ok (.iload_n 1, 1) := by decide +kernel
theorem d_Sheets_hindrance_2 : decode prog_9_method_9_code 2 = .ok (.invokevirtual 39, 3) := by decide +kernel
theorem d_Sheets_hindrance_5 : decode prog_9_method_9_code 5 = .ok (.ifCond .eq 5, 3) := by decide +kernel
theorem d_Sheets_hindrance_10 : decode prog_9_method_9_code 10 = .ok (.aload_n 0, 1) := by decide +kernel
theorem d_Sheets_hindrance_11 : decode prog_9_method_9_code 11 = .ok (.getfield 11, 3) := by decide +kernel
theorem d_Sheets_hindrance_14 : decode prog_9_method_9_code 14 = .ok (.iload_n 1, 1) := by decide +kernel
theorem d_Sheets_hindrance_15 : decode prog_9_method_9_code 15 = .ok (.iaload, 1) := by decide +kernel
theorem d_Sheets_hindrance_16 : decode prog_9_method_9_code 16 = .ok (.iload_n 2, 1) := by decide +kernel
theorem d_Sheets_hindrance_17 : decode prog_9_method_9_code 17 = .ok (.if_icmp .eq 5, 3) := by decide +kernel
theorem d_Sheets_hindrance_22 : decode prog_9_method_9_code 22 = .ok (.iload_n 3, 1) := by decide +kernel
theorem d_Sheets_hindrance_23 : decode prog_9_method_9_code 23 = .ok (.aload_n 0, 1) := by decide +kernel
theorem d_Sheets_hindrance_24 : decode prog_9_method_9_code 24 = .ok (.getfield 15, 3) := by decide +kernel
theorem d_Sheets_hindrance_27 : decode prog_9_method_9_code 27 = .ok (.iload_n 1, 1) := by decide +kernel
theorem d_Sheets_hindrance_28 : decode prog_9_method_9_code 28 = .ok (.iaload, 1) := by decide +kernel
theorem d_Sheets_hindrance_29 : decode prog_9_method_9_code 29 = .ok (.invokestatic 27, 3) := by decide +kernel
theorem d_Sheets_hindrance_32 : decode prog_9_method_9_code 32 = .ok (.ifCond .eq 7, 3) := by decide +kernel
theorem d_Sheets_hindrance_39 : decode prog_9_method_9_code 39 = .ok (.iconst 2, 1) := by decide +kernel
theorem d_Sheets_hindrance_40 : decode prog_9_method_9_code 40 = .ok (.ireturn, 1) := by decide +kernel
theorem d_Sheets_hindrance_35 : decode prog_9_method_9_code 35 = .ok (.iconst 0, 1) := by decide +kernel
theorem d_Sheets_hindrance_36 : decode prog_9_method_9_code 36 = .ok (.goto 4, 3) := by decide +kernel
theorem d_Sheets_hindrance_20 : decode prog_9_method_9_code 20 = .ok (.iconst 3, 1) := by decide +kernel
theorem d_Sheets_hindrance_21 : decode prog_9_method_9_code 21 = .ok (.ireturn, 1) := by decide +kernel
theorem d_Sheets_hindrance_8 : decode prog_9_method_9_code 8 = .ok (.iconst 1, 1) := by decide +kernel
theorem d_Sheets_hindrance_9 : decode prog_9_method_9_code 9 = .ok (.ireturn, 1) := by decide +kernel
theorem d_O_put_27 : decode prog_1_method_37_code 27 = .ok (.istore 5, 2) := by decide +kernel
theorem d_O_put_29 : decode prog_1_method_37_code 29 = .ok (.iload 5, 2) := by decide +kernel
theorem d_O_put_31 : decode prog_1_method_37_code 31 = .ok (.ifCond .eq 13, 3) := by decide +kernel
theorem d_O_put_44 : decode prog_1_method_37_code 44 = .ok (.aload_n 0, 1) := by decide +kernel
theorem d_O_put_45 : decode prog_1_method_37_code 45 = .ok (.getfield 10, 3) := by decide +kernel
theorem d_O_put_48 : decode prog_1_method_37_code 48 = .ok (.iload_n 1, 1) := by decide +kernel
theorem d_O_put_49 : decode prog_1_method_37_code 49 = .ok (.iload_n 3, 1) := by decide +kernel
theorem d_O_put_50 : decode prog_1_method_37_code 50 = .ok (.iload 4, 2) := by decide +kernel
theorem d_O_put_52 : decode prog_1_method_37_code 52 = .ok (.invokevirtual 331, 3) := by decide +kernel
theorem d_Sheets_setItem_0 : decode prog_9_method_12_code 0 = .ok (.iload_n 3, 1) := by decide +kernel
theorem d_Sheets_setItem_1 : decode prog_9_method_12_code 1 = .ok (.istore 4, 2) := by decide +kernel
theorem d_Sheets_setItem_3 : decode prog_9_method_12_code 3 = .ok (.aload_n 0, 1) := by decide +kernel
theorem d_Sheets_setItem_4 : decode prog_9_method_12_code 4 = .ok (.getfield 11, 3) := by decide +kernel
theorem d_Sheets_setItem_7 : decode prog_9_method_12_code 7 = .ok (.iload_n 1, 1) := by decide +kernel
theorem d_Sheets_setItem_8 : decode prog_9_method_12_code 8 = .ok (.iaload, 1) := by decide +kernel
theorem d_Sheets_setItem_9 : decode prog_9_method_12_code 9 = .ok (.ifCond .ne 10, 3) := by decide +kernel
theorem d_Sheets_setItem_12 : decode prog_9_method_12_code 12 = .ok (.iload_n 3, 1) := by decide +kernel
theorem d_Sheets_setItem_13 : decode prog_9_method_12_code 13 = .ok (.i2b, 1) := by decide +kernel
theorem d_Sheets_setItem_14 : decode prog_9_method_12_code 14 = .ok (.istore 4, 2) := by decide +kernel
theorem d_Sheets_setItem_16 : decode prog_9_method_12_code 16 = .ok (.goto 17, 3) := by decide +kernel
theorem d_Sheets_setItem_19 : decode prog_9_method_12_code 19 = .ok (.aload_n 0, 1) := by decide +kernel
theorem d_Sheets_setItem_20 : decode prog_9_method_12_code 20 = .ok (.getfield 11, 3) := by decide +kernel
theorem d_Sheets_setItem_23 : decode prog_9_method_12_code 23 = .ok (.iload_n 1, 1) := by decide +kernel
theorem d_Sheets_setItem_24 : decode prog_9_method_12_code 24 = .ok (.iaload, 1) := by decide +kernel
theorem d_Sheets_setItem_25 : decode prog_9_method_12_code 25 = .ok (.iconst 1, 1) := by decide +kernel
theorem d_Sheets_setItem_26 : decode prog_9_method_12_code 26 = .ok (.if_icmp .ne 7, 3) := by decide +kernel
theorem d_Sheets_setItem_29 : decode prog_9_method_12_code 29 = .ok (.iload_n 3, 1) := by decide +kernel
theorem d_Sheets_setItem_30 : decode prog_9_method_12_code 30 = .ok (.i2s, 1) := by decide +kernel
theorem d_Sheets_setItem_31 : decode prog_9_method_12_code 31 = .ok (.istore 4, 2) := by decide +kernel
theorem d_Sheets_setItem_33 : decode prog_9_method_12_code 33 = .ok (.aload_n 0, 1) := by decide +kernel
theorem d_Sheets_setItem_34 : decode prog_9_method_12_code 34 = .ok (.getfield 18, 3) := by decide +kernel
theorem d_Sheets_setItem_37 : decode prog_9_method_12_code 37 = .ok (.iload_n 1, 1) := by decide +kernel
theorem d_Sheets_setItem_38 : decode prog_9_method_12_code 38 = .ok (.bipush 40, 2) := by decide +kernel
theorem d_Sheets_setItem_40 : decode prog_9_method_12_code 40 = .ok (.imul, 1) := by decide +kernel
theorem d_Sheets_setItem_41 : decode prog_9_method_12_code 41 = .ok (.iload_n 2, 1) := by decide +kernel
theorem d_Sheets_setItem_42 : decode prog_9_method_12_code 42 = .ok (.iadd, 1) := by decide +kernel
theorem d_Sheets_setItem_43 : decode prog_9_method_12_code 43 = .ok (.iload 4, 2) := by decide +kernel
theorem d_Sheets_setItem_45 : decode prog_9_method_12_code 45 = .ok (.iastore, 1) := by decide +kernel
theorem d_Sheets_setItem_46 : decode prog_9_method_12_code 46 = .ok (.return_, 1) := by decide +kernel
theorem d_O_put_55 : decode prog_1_method_37_code 55 = .ok (.iconst 1, 1) := by decide +kernel
theorem d_O_put_56 : decode prog_1_method_37_code 56 = .ok (.ireturn, 1) := by decide +kernel
theorem d_O_put_34 : decode prog_1_method_37_code 34 = .ok (.aload_n 0, 1) := by decide +kernel
theorem d_O_put_35 : decode prog_1_method_37_code 35 = .ok (.getfield 10, 3) := by decide +kernel
theorem d_O_put_38 : decode prog_1_method_37_code 38 = .ok (.iload 5, 2) := by decide +kernel
theorem d_O_put_40 : decode prog_1_method_37_code 40 = .ok (.invokevirtual 102, 3) := by decide +kernel
theorem d_O_put_43 : decode prog_1_method_37_code 43 = .ok (.ireturn, 1) := by decide +kernel
theorem d_O_get_0 : decode prog_1_method_38_code 0 = .ok (.iload_n 1, 1) := by decide +kernel
theorem d_O_get_1 : decode prog_1_method_38_code 1 = .ok (.invokestatic 92, 3) := by decide +kernel
theorem d_O_get_4 : decode prog_1_method_38_code 4 = .ok (.ifCond .eq 10, 3) := by decide +kernel
theorem d_O_get_14 : decode prog_1_method_38_code 14 = .ok (.ldc_w 334, 3) := by decide +kernel
theorem d_O_get_17 : decode prog_1_method_38_code 17 = .ok (.ireturn, 1) := by decide +kernel
theorem d_O_get_7 : decode prog_1_method_38_code 7 = .ok (.iload_n 2, 1) := by decide +kernel
theorem d_O_get_8 : decode prog_1_method_38_code 8 = .ok (.invokestatic 318, 3) := by decide +kernel
theorem d_O_get_11 : decode prog_1_method_38_code 11 = .ok (.ifCond .ne 7, 3) := by decide +kernel
theorem d_O_get_18 : decode prog_1_method_38_code 18 = .ok (.aload_n 0, 1) := by decide +kernel
theorem d_O_get_19 : decode prog_1_method_38_code 19 = .ok (.getfield 10, 3) := by decide +kernel
theorem d_O_get_22 : decode prog_1_method_38_code 22 = .ok (.iload_n 1, 1) := by decide +kernel
theorem d_O_get_23 : decode prog_1_method_38_code 23 = .ok (.iload_n 2, 1) := by decide +kernel
theorem d_O_get_24 : decode prog_1_method_38_code 24 = .ok (.iload_n 3, 1) := by decide +kernel
theorem d_O_get_25 : decode prog_1_method_38_code 25 = .ok (.invokevirtual 328, 3) := by decide +kernel
theorem d_O_get_28 : decode prog_1_method_38_code 28 = .ok (.istore 4, 2) := by decide +kernel
theorem d_O_get_30 : decode prog_1_method_38_code 30 = .ok (.iload 4, 2) := by decide +kernel
theorem d_O_get_32 : decode prog_1_method_38_code 32 = .ok (.ifCond .eq 17, 3) := by decide +kernel
theorem d_O_get_49 : decode prog_1_method_38_code 49 = .ok (.aload_n 0, 1) := by decide +kernel
theorem d_O_get_50 : decode prog_1_method_38_code 50 = .ok (.getfield 10, 3) := by decide +kernel
theorem d_O_get_53 : decode prog_1_method_38_code 53 = .ok (.iload_n 1, 1) := by decide +kernel
theorem d_O_get_54 : decode prog_1_method_38_code 54 = .ok (.iload_n 3, 1) := by decide +kernel
theorem d_O_get_55 : decode prog_1_method_38_code 55 = .ok (.invokevirtual 119, 3) := by decide +kernel
theorem d_O_get_58 : decode prog_1_method_38_code 58 = .ok (.ireturn, 1) := by decide +kernel
theorem d_O_get_35 : decode prog_1_method_38_code 35 = .ok (.aload_n 0, 1) := by decide +kernel
theorem d_O_get_36 : decode prog_1_method_38_code 36 = .ok (.getfield 10, 3) := by decide +kernel
theorem d_O_get_39 : decode prog_1_method_38_code 39 = .ok (.iload 4, 2) := by decide +kernel
theorem d_O_get_41 : decode prog_1_method_38_code 41 = .ok (.invokevirtual 102, 3) := by decide +kernel
theorem d_O_get_44 : decode prog_1_method_38_code 44 = .ok (.pop, 1) := by decide +kernel
theorem d_O_get_45 : decode prog_1_method_38_code 45 = .ok (.ldc_w 334, 3) := by decide +kernel
theorem d_O_get_48 : decode prog_1_method_38_code 48 = .ok (.ireturn, 1) := by decide +kernel
theorem d_O_copy_0 : decode prog_1_method_39_code 0 = .ok (.iload_n 1, 1) := by decide +kernel
theorem d_O_copy_1 : decode prog_1_method_39_code 1 = .ok (.invokestatic 92, 3) := by decide +kernel
theorem d_O_copy_4 : decode prog_1_method_39_code 4 = .ok (.ifCond .eq 10, 3) := by decide +kernel
theorem d_O_copy_14 : decode prog_1_method_39_code 14 = .ok (.bipush (-2), 2) := by decide +kernel
theorem d_O_copy_16 : decode prog_1_method_39_code 16 = .ok (.ireturn, 1) := by decide +kernel
theorem d_O_copy_7 : decode prog_1_method_39_code 7 = .ok (.iload_n 3, 1) := by decide +kernel
theorem d_O_copy_8 : decode prog_1_method_39_code 8 = .ok (.invokestatic 92, 3) := by decide +kernel
theorem d_O_copy_11 : decode prog_1_method_39_code 11 = .ok (.ifCond .ne 6, 3) := by decide +kernel
theorem d_O_copy_17 : decode prog_1_method_39_code 17 = .ok (.aload_n 0, 1) := by decide +kernel
theorem d_O_copy_18 : decode prog_1_method_39_code 18 = .ok (.getfield 10, 3) := by decide +kernel
theorem d_O_copy_21 : decode prog_1_method_39_code 21 = .ok (.iload_n 1, 1) := by decide +kernel
theorem d_O_copy_22 : decode prog_1_method_39_code 22 = .ok (.invokevirtual 99, 3) := by decide +kernel
theorem d_O_copy_25 : decode prog_1_method_39_code 25 = .ok (.ifCond .ne 14, 3) := by decide +kernel
theorem d_O_copy_28 : decode prog_1_method_39_code 28 = .ok (.aload_n 0, 1) := by decide +kernel
theorem d_O_copy_29 : decode prog_1_method_39_code 29 = .ok (.getfield 10, 3) := by decide +kernel
theorem d_O_copy_32 : decode prog_1_method_39_code 32 = .ok (.iload_n 3, 1) := by decide +kernel
theorem d_O_copy_33 : decode prog_1_method_39_code 33 = .ok (.invokevirtual 99, 3) := by decide +kernel
theorem d_O_copy_36 : decode prog_1_method_39_code 36 = .ok (.ifCond .eq 12, 3) := by decide +kernel
theorem d_O_copy_48 : decode prog_1_method_39_code 48 = .ok (.aload_n 0, 1) := by decide +kernel
theorem d_O_copy_49 : decode prog_1_method_39_code 49 = .ok (.getfield 10, 3) := by decide +kernel
theorem d_O_copy_52 : decode prog_1_method_39_code 52 = .ok (.iload_n 1, 1) := by decide +kernel
theorem d_O_copy_53 : decode prog_1_method_39_code 53 = .ok (.iload_n 3, 1) := by decide +kernel
theorem d_O_copy_54 : decode prog_1_method_39_code 54 = .ok (.invokevirtual 335, 3) := by decide +kernel
theorem d_Sheets_areOfOneType_0 : decode prog_9_method_5_code 0 = .ok (.aload_n 0, 1) := by decide +kernel
theorem d_Sheets_areOfOneType_1 : decode prog_9_method_5_code 1 = .ok (.getfield 11, 3) := by decide +kernel
theorem d_Sheets_areOfOneType_4 : decode prog_9_method_5_code 4 = .ok (.iload_n 1, 1) := by decide +kernel
theorem d_Sheets_areOfOneType_5 : decode prog_9_method_5_code 5 = .ok (.iaload, 1) := by decide +kernel
theorem d_Sheets_areOfOneType_6 : decode prog_9_method_5_code 6 = .ok (.aload_n 0, 1) := by decide +kernel
theorem d_Sheets_areOfOneType_7 : decode prog_9_method_5_code 7 = .ok (.getfield 11, 3) := by decide +kernel
theorem d_Sheets_areOfOneType_10 : decode prog_9_method_5_code 10 = .ok (.iload_n 2, 1) := by decide +kernel
theorem d_Sheets_areOfOneType_11 : decode prog_9_method_5_code 11 = .ok (.iaload, 1) := by decide +kernel
theorem d_Sheets_areOfOneType_12 : decode prog_9_method_5_code 12 = .ok (.if_icmp .ne 7, 3) := by decide +kernel
theorem d_Sheets_areOfOneType_15 : decode prog_9_method_5_code 15 = .ok (.iconst 1, 1) := by decide +kernel
theorem d_Sheets_areOfOneType_16 : decode prog_9_method_5_code 16 = .ok (.goto 4, 3) := by decide +kernel
theorem d_Sheets_areOfOneType_20 : decode prog_9_method_5_code 20 = .ok (.ireturn, 1) := by decide +kernel
theorem d_Sheets_areOfOneType_19 : decode prog_9_method_5_code 19 = .ok (.iconst 0, 1) := by decide +kernel
theorem d_O_copy_57 : decode prog_1_method_39_code 57 = .ok (.ifCond .ne 12, 3) := by decide +kernel
theorem d_O_copy_60 : decode prog_1_method_39_code 60 = .ok (.aload_n 0, 1) := by decide +kernel
theorem d_O_copy_61 : decode prog_1_method_39_code 61 = .ok (.getfield 10, 3) := by decide +kernel
theorem d_O_copy_64 : decode prog_1_method_39_code 64 = .ok (.iconst 4, 1) := by decide +kernel
theorem d_O_copy_65 : decode prog_1_method_39_code 65 = .ok (.invokevirtual 102, 3) := by decide +kernel
theorem d_O_copy_68 : decode prog_1_method_39_code 68 = .ok (.ireturn, 1) := by decide +kernel
theorem d_O_copy_69 : decode prog_1_method_39_code 69 = .ok (.aload_n 0, 1) := by decide +kernel
theorem d_O_copy_70 : decode prog_1_method_39_code 70 = .ok (.getfield 10, 3) := by decide +kernel
theorem d_O_copy_73 : decode prog_1_method_39_code 73 = .ok (.iload_n 1, 1) := by decide +kernel
theorem d_O_copy_74 : decode prog_1_method_39_code 74 = .ok (.iload_n 2, 1) := by decide +kernel
theorem d_O_copy_75 : decode prog_1_method_39_code 75 = .ok (.iload 5, 2) := by decide +kernel
theorem d_O_copy_77 : decode prog_1_method_39_code 77 = .ok (.invokevirtual 106, 3) := by decide +kernel
theorem d_O_copy_80 : decode prog_1_method_39_code 80 = .ok (.ifCond .eq 18, 3) := by decide +kernel
theorem d_O_copy_83 : decode prog_1_method_39_code 83 = .ok (.aload_n 0, 1) := by decide +kernel
theorem d_O_copy_84 : decode prog_1_method_39_code 84 = .ok (.getfield 10, 3) := by decide +kernel
theorem d_O_copy_87 : decode prog_1_method_39_code 87 = .ok (.iload_n 3, 1) := by decide +kernel
theorem d_O_copy_88 : decode prog_1_method_39_code 88 = .ok (.iload 4, 2) := by decide +kernel
theorem d_O_copy_90 : decode prog_1_method_39_code 90 = .ok (.iload 5, 2) := by decide +kernel
theorem d_O_copy_92 : decode prog_1_method_39_code 92 = .ok (.invokevirtual 106, 3) := by decide +kernel
theorem d_O_copy_95 : decode prog_1_method_39_code 95 = .ok (.ifCond .ne 12, 3) := by decide +kernel
theorem d_O_copy_107 : decode prog_1_method_39_code 107 = .ok (.aload_n 0, 1) := by decide +kernel
theorem d_O_copy_108 : decode prog_1_method_39_code 108 = .ok (.getfield 10, 3) := by decide +kernel
theorem d_O_copy_111 : decode prog_1_method_39_code 111 = .ok (.iload_n 1, 1) := by decide +kernel
theorem d_O_copy_112 : decode prog_1_method_39_code 112 = .ok (.iload_n 2, 1) := by decide +kernel
theorem d_O_copy_113 : decode prog_1_method_39_code 113 = .ok (.iload_n 3, 1) := by decide +kernel
theorem d_O_copy_114 : decode prog_1_method_39_code 114 = .ok (.iload 4, 2) := by decide +kernel
theorem d_O_copy_116 : decode prog_1_method_39_code 116 = .ok (.iload 5, 2) := by decide +kernel
theorem d_O_copy_118 : decode prog_1_method_39_code 118 = .ok (.invokevirtual 338, 3) := by decide +kernel
theorem d_Sheets_moveItems_0 : decode prog_9_method_13_code 0 = .ok (.aload_n 0, 1) := by decide +kernel
theorem d_Sheets_moveItems_1 : decode prog_9_method_13_code 1 = .ok (.getfield 18, 3) := by decide +kernel
theorem d_Sheets_moveItems_4 : decode prog_9_method_13_code 4 = .ok (.iload_n 1, 1) := by decide +kernel
theorem d_Sheets_moveItems_5 : decode prog_9_method_13_code 5 = .ok (.bipush 40, 2) := by decide +kernel
theorem d_Sheets_moveItems_7 : decode prog_9_method_13_code 7 = .ok (.imul, 1) := by decide +kernel
theorem d_Sheets_moveItems_8 : decode prog_9_method_13_code 8 = .ok (.iload_n 2, 1) := by decide +kernel
theorem d_Sheets_moveItems_9 : decode prog_9_method_13_code 9 = .ok (.iadd, 1) := by decide +kernel
theorem d_Sheets_moveItems_10 : decode prog_9_method_13_code 10 = .ok (.aload_n 0, 1) := by decide +kernel
theorem d_Sheets_moveItems_11 : decode prog_9_method_13_code 11 = .ok (.getfield 18, 3) := by decide +kernel
theorem d_Sheets_moveItems_14 : decode prog_9_method_13_code 14 = .ok (.iload_n 3, 1) := by decide +kernel
theorem d_Sheets_moveItems_15 : decode prog_9_method_13_code 15 = .ok (.bipush 40, 2) := by decide +kernel
theorem d_Sheets_moveItems_17 : decode prog_9_method_13_code 17 = .ok (.imul, 1) := by decide +kernel
theorem d_Sheets_moveItems_18 : decode prog_9_method_13_code 18 = .ok (.iload 4, 2) := by decide +kernel
theorem d_Sheets_moveItems_20 : decode prog_9_method_13_code 20 = .ok (.iadd, 1) := by decide +kernel
theorem d_Sheets_moveItems_21 : decode prog_9_method_13_code 21 = .ok (.iload 5, 2) := by decide +kernel
theorem d_Sheets_moveItems_23 : decode prog_9_method_13_code 23 = .ok (.invokestatic 46, 3) := by decide +kernel
theorem d_Sheets_moveItems_26 : decode prog_9_method_13_code 26 = .ok (.return_, 1) := by decide +kernel
theorem d_O_copy_121 : decode prog_1_method_39_code 121 = .ok (.iconst 1, 1) := by decide +kernel
theorem d_O_copy_122 : decode prog_1_method_39_code 122 = .ok (.ireturn, 1) := by decide +kernel
theorem d_O_copy_98 : decode prog_1_method_39_code 98 = .ok (.aload_n 0, 1) := by decide +kernel
theorem d_O_copy_99 : decode prog_1_method_39_code 99 = .ok (.getfield 10, 3) := by decide +kernel
theorem d_O_copy_102 : decode prog_1_method_39_code 102 = .ok (.iconst 2, 1) := by decide +kernel
theorem d_O_copy_103 : decode prog_1_method_39_code 103 = .ok (.invokevirtual 102, 3) := by decide +kernel
theorem d_O_copy_106 : decode prog_1_method_39_code 106 = .ok (.ireturn, 1) := by decide +kernel
theorem d_O_copy_39 : decode prog_1_method_39_code 39 = .ok (.aload_n 0, 1) := by decide +kernel
theorem d_O_copy_40 : decode prog_1_method_39_code 40 = .ok (.getfield 10, 3) := by decide +kernel
theorem d_O_copy_43 : decode prog_1_method_39_code 43 = .ok (.iconst 1, 1) := by decide +kernel
theorem d_O_copy_44 : decode prog_1_method_39_code 44 = .ok (.invokevirtual 102, 3) := by decide +kernel
theorem d_O_copy_47 : decode prog_1_method_39_code 47 = .ok (.ireturn, 1) := by decide +kernel
theorem d_O_write_0 : decode prog_1_method_40_code 0 = .ok (.aload_n 0, 1) := by decide +kernel
theorem d_O_write_1 : decode prog_1_method_40_code 1 = .ok (.getfield 27, 3) := by decide +kernel
theorem d_O_write_4 : decode prog_1_method_40_code 4 = .ok (.iload_n 1, 1) := by decide +kernel
theorem d_O_write_5 : decode prog_1_method_40_code 5 = .ok (.invokevirtual 138, 3) := by decide +kernel
theorem d_O_write_8 : decode prog_1_method_40_code 8 = .ok (.ifCond .eq 10, 3) := by decide +kernel
theorem d_O_write_18 : decode prog_1_method_40_code 18 = .ok (.bipush (-2), 2) := by decide +kernel
theorem d_O_write_20 : decode prog_1_method_40_code 20 = .ok (.ireturn, 1) := by decide +kernel
theorem d_O_write_11 : decode prog_1_method_40_code 11 = .ok (.iload_n 2, 1) := by decide +kernel
theorem d_O_write_12 : decode prog_1_method_40_code 12 = .ok (.invokestatic 92, 3) := by decide +kernel
theorem d_O_write_15 : decode prog_1_method_40_code 15 = .ok (.ifCond .ne 6, 3) := by decide +kernel
theorem d_O_write_21 : decode prog_1_method_40_code 21 = .ok (.aload_n 0, 1) := by decide +kernel
theorem d_O_write_22 : decode prog_1_method_40_code 22 = .ok (.getfield 10, 3) := by decide +kernel
theorem d_O_write_25 : decode prog_1_method_40_code 25 = .ok (.iload_n 2, 1) := by decide +kernel
theorem d_O_write_26 : decode prog_1_method_40_code 26 = .ok (.invokevirtual 99, 3) := by decide +kernel
theorem d_O_write_29 : decode prog_1_method_40_code 29 = .ok (.ifCond .eq 12, 3) := by decide +kernel
theorem d_O_write_41 : decode prog_1_method_40_code 41 = .ok (.aload_n 0, 1) := by decide +kernel
theorem d_O_write_42 : decode prog_1_method_40_code 42 = .ok (.getfield 37, 3) := by decide +kernel
theorem d_O_write_45 : decode prog_1_method_40_code 45 = .ok (.iload_n 1, 1) := by decide +kernel
theorem d_O_write_46 : decode prog_1_method_40_code 46 = .ok (.invokevirtual 181, 3) := by decide +kernel
theorem d_O_write_49 : decode prog_1_method_40_code 49 = .ok (.aload_n 0, 1) := by decide +kernel
theorem d_O_write_50 : decode prog_1_method_40_code 50 = .ok (.getfield 10, 3) := by decide +kernel
theorem d_O_write_53 : decode prog_1_method_40_code 53 = .ok (.iload_n 2, 1) := by decide +kernel
theorem d_O_write_54 : decode prog_1_method_40_code 54 = .ok (.invokevirtual 342, 3) := by decide +kernel
theorem d_Sheets_sizeOf_0 : decode prog_9_method_6_code 0 = .ok (.aload_n 0, 1) := by decide +kernel
theorem d_Sheets_sizeOf_1 : decode prog_9_method_6_code 1 = .ok (.getfield 15, 3) := by decide +kernel
theorem d_Sheets_sizeOf_4 : decode prog_9_method_6_code 4 = .ok (.iload_n 1, 1) := by decide +kernel
theorem d_Sheets_sizeOf_5 : decode prog_9_method_6_code 5 = .ok (.iaload, 1) := by decide +kernel
theorem d_Sheets_sizeOf_6 : decode prog_9_method_6_code 6 = .ok (.ireturn, 1) := by decide +kernel
theorem d_O_write_57 : decode prog_1_method_40_code 57 = .ok (.invokestatic 343, 3) := by decide +kernel
theorem d_O_write_60 : decode prog_1_method_40_code 60 = .ok (.istore_n 3, 1) := by decide +kernel
theorem d_O_write_61 : decode prog_1_method_40_code 61 = .ok (.iconst 0, 1) := by decide +kernel
theorem d_O_write_62 : decode prog_1_method_40_code 62 = .ok (.istore 4, 2) := by decide +kernel
theorem d_O_write_32 : decode prog_1_method_40_code 32 = .ok (.aload_n 0, 1) := by decide +kernel
theorem d_O_write_33 : decode prog_1_method_40_code 33 = .ok (.getfield 10, 3) := by decide +kernel
theorem d_O_write_36 : decode prog_1_method_40_code 36 = .ok (.iconst 1, 1) := by decide +kernel
theorem d_O_write_37 : decode prog_1_method_40_code 37 = .ok (.invokevirtual 102, 3) := by decide +kernel
theorem d_O_write_40 : decode prog_1_method_40_code 40 = .ok (.ireturn, 1) := by decide +kernel
theorem d_O_write_64 : decode prog_1_method_40_code 64 = .ok (.iload 4, 2) := by decide +kernel
theorem d_O_write_66 : decode prog_1_method_40_code 66 = .ok (.iload_n 3, 1) := by decide +kernel
theorem d_O_write_67 : decode prog_1_method_40_code 67 = .ok (.if_icmp .ge 29, 3) := by decide +kernel
theorem d_O_write_96 : decode prog_1_method_40_code 96 = .ok (.iload_n 3, 1) := by decide +kernel
theorem d_O_write_97 : decode prog_1_method_40_code 97 = .ok (.ireturn, 1) := by decide +kernel
theorem d_O_write_70 : decode prog_1_method_40_code 70 = .ok (.aload_n 0, 1) := by decide +kernel
theorem d_O_write_71 : decode prog_1_method_40_code 71 = .ok (.getfield 10, 3) := by decide +kernel
theorem d_O_write_74 : decode prog_1_method_40_code 74 = .ok (.iload_n 2, 1) := by decide +kernel
theorem d_O_write_75 : decode prog_1_method_40_code 75 = .ok (.iload 4, 2) := by decide +kernel
theorem d_O_write_77 : decode prog_1_method_40_code 77 = .ok (.aload_n 0, 1) := by decide +kernel
theorem d_O_write_78 : decode prog_1_method_40_code 78 = .ok (.getfield 37, 3) := by decide +kernel
theorem d_O_write_81 : decode prog_1_method_40_code 81 = .ok (.iload_n 1, 1) := by decide +kernel
theorem d_O_write_82 : decode prog_1_method_40_code 82 = .ok (.iload 4, 2) := by decide +kernel
theorem d_O_write_84 : decode prog_1_method_40_code 84 = .ok (.invokevirtual 184, 3) := by decide +kernel
theorem d_O_write_87 : decode prog_1_method_40_code 87 = .ok (.invokevirtual 331, 3) := by decide +kernel
theorem d_O_write_90 : decode prog_1_method_40_code 90 = .ok (.iinc 4 1, 3) := by decide +kernel
theorem d_O_write_93 : decode prog_1_method_40_code 93 = .ok (.goto (-29), 3) := by decide +kernel
theorem d_O_count_0 : decode prog_1_method_41_code 0 = .ok (.iload_n 1, 1) := by decide +kernel
theorem d_O_count_1 : decode prog_1_method_41_code 1 = .ok (.tableswitch 126 0 8 #[51, 59, 67, 75, 84, 93, 102, 110, 118], 51) := by decide +kernel
theorem d_O_count_52 : decode prog_1_method_41_code 52 = .ok (.aload_n 0, 1) := by decide +kernel
theorem d_O_count_53 : decode prog_1_method_41_code 53 = .ok (.getfield 27, 3) := by decide +kernel
theorem d_O_count_56 : decode prog_1_method_41_code 56 = .ok (.getfield 82, 3) := by decide +kernel
theorem d_O_count_59 : decode prog_1_method_41_code 59 = .ok (.ireturn, 1) := by decide +kernel
theorem d_O_count_60 : decode prog_1_method_41_code 60 = .ok (.aload_n 0, 1) := by decide +kernel
theorem d_O_count_61 : decode prog_1_method_41_code 61 = .ok (.getfield 27, 3) := by decide +kernel
theorem d_O_count_64 : decode prog_1_method_41_code 64 = .ok (.getfield 112, 3) := by decide +kernel
theorem d_O_count_67 : decode prog_1_method_41_code 67 = .ok (.ireturn, 1) := by decide +kernel
theorem d_O_count_68 : decode prog_1_method_41_code 68 = .ok (.aload_n 0, 1) := by decide +kernel
theorem d_O_count_69 : decode prog_1_method_41_code 69 = .ok (.getfield 27, 3) := by decide +kernel
theorem d_O_count_72 : decode prog_1_method_41_code 72 = .ok (.invokevirtual 348, 3) := by decide +kernel
theorem d_Rows_countKnown_0 : decode prog_8_method_14_code 0 = .ok (.iconst 0, 1) := by decide +kernel
theorem d_Rows_countKnown_1 : decode prog_8_method_14_code 1 = .ok (.istore_n 1, 1) := by decide +kernel
theorem d_Rows_countKnown_2 : decode prog_8_method_14_code 2 = .ok (.iconst 0, 1) := by decide +kernel
theorem d_Rows_countKnown_3 : decode prog_8_method_14_code 3 = .ok (.istore_n 2, 1) := by decide +kernel
theorem d_Rows_countKnown_4 : decode prog_8_method_14_code 4 = .ok (.iload_n 2, 1) := by decide +kernel
theorem d_Rows_countKnown_5 : decode prog_8_method_14_code 5 = .ok (.aload_n 0, 1) := by decide +kernel
theorem d_Rows_countKnown_6 : decode prog_8_method_14_code 6 = .ok (.getfield 22, 3) := by decide +kernel
theorem d_Rows_countKnown_9 : decode prog_8_method_14_code 9 = .ok (.if_icmp .ge 20, 3) := by decide +kernel
theorem d_Rows_countKnown_29 : decode prog_8_method_14_code 29 = .ok (.iload_n 1, 1) := by decide +kernel
theorem d_Rows_countKnown_30 : decode prog_8_method_14_code 30 = .ok (.ireturn, 1) := by decide +kernel
theorem d_Rows_countKnown_12 : decode prog_8_method_14_code 12 = .ok (.aload_n 0, 1) := by decide +kernel
theorem d_Rows_countKnown_13 : decode prog_8_method_14_code 13 = .ok (.iload_n 2, 1) := by decide +kernel
theorem d_Rows_countKnown_14 : decode prog_8_method_14_code 14 = .ok (.invokevirtual 43, 3) := by decide +kernel
theorem d_Rows_countKnown_17 : decode prog_8_method_14_code 17 = .ok (.ifCond .eq 6, 3) := by decide +kernel
theorem d_Rows_countKnown_20 : decode prog_8_method_14_code 20 = .ok (.iinc 1 1, 3) := by decide +kernel
theorem d_Rows_countKnown_23 : decode prog_8_method_14_code 23 = .ok (.iinc 2 1, 3) := by decide +kernel
theorem d_Rows_countKnown_26 : decode prog_8_method_14_code 26 = .ok (.goto (-22), 3) := by decide +kernel
theorem d_O_count_75 : decode prog_1_method_41_code 75 = .ok (.ireturn, 1) := by decide +kernel
theorem d_O_count_76 : decode prog_1_method_41_code 76 = .ok (.aload_n 0, 1) := by decide +kernel
theorem d_O_count_77 : decode prog_1_method_41_code 77 = .ok (.getfield 27, 3) := by decide +kernel
theorem d_O_count_80 : decode prog_1_method_41_code 80 = .ok (.iconst 0, 1) := by decide +kernel
theorem d_O_count_81 : decode prog_1_method_41_code 81 = .ok (.invokevirtual 351, 3) := by decide +kernel
theorem d_Rows_countKnownOf_0 : decode prog_8_method_15_code 0 = .ok (.iconst 0, 1) := by decide +kernel
theorem d_Rows_countKnownOf_1 : decode prog_8_method_15_code 1 = .ok (.istore_n 2, 1) := by decide +kernel
theorem d_Rows_countKnownOf_2 : decode prog_8_method_15_code 2 = .ok (.iconst 0, 1) := by decide +kernel
theorem d_Rows_countKnownOf_3 : decode prog_8_method_15_code 3 = .ok (.istore_n 3, 1) := by decide +kernel
theorem d_Rows_countKnownOf_4 : decode prog_8_method_15_code 4 = .ok (.iload_n 3, 1) := by decide +kernel
theorem d_Rows_countKnownOf_5 : decode prog_8_method_15_code 5 = .ok (.aload_n 0, 1) := by decide +kernel
theorem d_Rows_countKnownOf_6 : decode prog_8_method_15_code 6 = .ok (.getfield 22, 3) := by decide +kernel
theorem d_Rows_countKnownOf_9 : decode prog_8_method_15_code 9 = .ok (.if_icmp .ge 30, 3) := by decide +kernel
theorem d_Rows_countKnownOf_39 : decode prog_8_method_15_code 39 = .ok (.iload_n 2, 1) := by decide +kernel
theorem d_Rows_countKnownOf_40 : decode prog_8_method_15_code 40 = .ok (.ireturn, 1) := by decide +kernel
theorem d_Rows_countKnownOf_12 : decode prog_8_method_15_code 12 = .ok (.aload_n 0, 1) := by decide +kernel
theorem d_Rows_countKnownOf_13 : decode prog_8_method_15_code 13 = .ok (.iload_n 3, 1) := by decide +kernel
theorem d_Rows_countKnownOf_14 : decode prog_8_method_15_code 14 = .ok (.invokevirtual 43, 3) := by decide +kernel
theorem d_Rows_countKnownOf_17 : decode prog_8_method_15_code 17 = .ok (.ifCond .eq 16, 3) := by decide +kernel
theorem d_Rows_countKnownOf_20 : decode prog_8_method_15_code 20 = .ok (.aload_n 0, 1) := by decide +kernel
theorem d_Rows_countKnownOf_21 : decode prog_8_method_15_code 21 = .ok (.iload_n 3, 1) := by decide +kernel
theorem d_Rows_countKnownOf_22 : decode prog_8_method_15_code 22 = .ok (.iconst 0, 1) := by decide +kernel
theorem d_Rows_countKnownOf_23 : decode prog_8_method_15_code 23 = .ok (.invokevirtual 36, 3) := by decide +kernel
theorem d_Rows_countKnownOf_26 : decode prog_8_method_15_code 26 = .ok (.iload_n 1, 1) := by decide +kernel
theorem d_Rows_countKnownOf_27 : decode prog_8_method_15_code 27 = .ok (.if_icmp .ne 6, 3) := by decide +kernel
theorem d_Rows_countKnownOf_30 : decode prog_8_method_15_code 30 = .ok (.iinc 2 1, 3) := by decide +kernel
theorem d_Rows_countKnownOf_33 : decode prog_8_method_15_code 33 = .ok (.iinc 3 1, 3) := by decide +kernel
theorem d_Rows_countKnownOf_36 : decode prog_8_method_15_code 36 = .ok (.goto (-32), 3) := by decide +kernel
theorem d_O_count_84 : decode prog_1_method_41_code 84 = .ok (.ireturn, 1) := by decide +kernel
theorem d_O_count_85 : decode prog_1_method_41_code 85 = .ok (.aload_n 0, 1) := by decide +kernel
theorem d_O_count_86 : decode prog_1_method_41_code 86 = .ok (.getfield 27, 3) := by decide +kernel
theorem d_O_count_89 : decode prog_1_method_41_code 89 = .ok (.iconst 1, 1) := by decide +kernel
theorem d_O_count_90 : decode prog_1_method_41_code 90 = .ok (.invokevirtual 351, 3) := by decide +kernel
theorem d_O_count_93 : decode prog_1_method_41_code 93 = .ok (.ireturn, 1) := by decide +kernel
theorem d_O_count_94 : decode prog_1_method_41_code 94 = .ok (.aload_n 0, 1) := by decide +kernel
theorem d_O_count_95 : decode prog_1_method_41_code 95 = .ok (.getfield 27, 3) := by decide +kernel
theorem d_O_count_98 : decode prog_1_method_41_code 98 = .ok (.iconst 2, 1) := by decide +kernel
theorem d_O_count_99 : decode prog_1_method_41_code 99 = .ok (.invokevirtual 351, 3) := by decide +kernel
theorem d_O_count_102 : decode prog_1_method_41_code 102 = .ok (.ireturn, 1) := by decide +kernel
theorem d_O_count_103 : decode prog_1_method_41_code 103 = .ok (.aload_n 0, 1) := by decide +kernel
theorem d_O_count_104 : decode prog_1_method_41_code 104 = .ok (.getfield 67, 3) := by decide +kernel
theorem d_O_count_107 : decode prog_1_method_41_code 107 = .ok (.getfield 279, 3) := by decide +kernel
theorem d_O_count_110 : decode prog_1_method_41_code 110 = .ok (.ireturn, 1) := by decide +kernel
theorem d_O_count_111 : decode prog_1_method_41_code 111 = .ok (.aload_n 0, 1) := by decide +kernel
theorem d_O_count_112 : decode prog_1_method_41_code 112 = .ok (.getfield 37, 3) := by decide +kernel
theorem d_O_count_115 : decode prog_1_method_41_code 115 = .ok (.getfield 167, 3) := by decide +kernel
theorem d_O_count_118 : decode prog_1_method_41_code 118 = .ok (.ireturn, 1) := by decide +kernel
theorem d_O_count_119 : decode prog_1_method_41_code 119 = .ok (.aload_n 0, 1) := by decide +kernel
theorem d_O_count_120 : decode prog_1_method_41_code 120 = .ok (.getfield 10, 3) := by decide +kernel
theorem d_O_count_123 : decode prog_1_method_41_code 123 = .ok (.getfield 354, 3) := by decide +kernel
theorem d_O_count_126 : decode prog_1_method_41_code 126 = .ok (.ireturn, 1) := by decide +kernel
theorem d_O_count_127 : decode prog_1_method_41_code 127 = .ok (.bipush (-2), 2) := by decide +kernel
theorem d_O_count_129 : decode prog_1_method_41_code 129 = .ok (.ireturn, 1) := by decide +kernel
theorem d_O_digest_0 : decode prog_1_method_42_code 0 = .ok (.ldc2_w 357, 3) := by decide +kernel
theorem d_O_digest_3 : decode prog_1_method_42_code 3 = .ok (.lstore_n 1, 1) := by decide +kernel
theorem d_O_digest_4 : decode prog_1_method_42_code 4 = .ok (.iconst 0, 1) := by decide +kernel
theorem d_O_digest_5 : decode prog_1_method_42_code 5 = .ok (.istore_n 3, 1) := by decide +kernel
theorem d_O_digest_6 : decode prog_1_method_42_code 6 = .ok (.iload_n 3, 1) := by decide +kernel
theorem d_O_digest_7 : decode prog_1_method_42_code 7 = .ok (.bipush 7, 2) := by decide +kernel
theorem d_O_digest_9 : decode prog_1_method_42_code 9 = .ok (.if_icmp .gt 22, 3) := by decide +kernel
theorem d_O_digest_31 : decode prog_1_method_42_code 31 = .ok (.iconst 0, 1) := by decide +kernel
theorem d_O_digest_32 : decode prog_1_method_42_code 32 = .ok (.istore_n 3, 1) := by decide +kernel
theorem d_O_digest_12 : decode prog_1_method_42_code 12 = .ok (.ldc2_w 359, 3) := by decide +kernel
theorem d_O_digest_15 : decode prog_1_method_42_code 15 = .ok (.lload_n 1, 1) := by decide +kernel
theorem d_O_digest_16 : decode prog_1_method_42_code 16 = .ok (.lmul, 1) := by decide +kernel
theorem d_O_digest_17 : decode prog_1_method_42_code 17 = .ok (.aload_n 0, 1) := by decide +kernel
theorem d_O_digest_18 : decode prog_1_method_42_code 18 = .ok (.iload_n 3, 1) := by decide +kernel
theorem d_O_digest_19 : decode prog_1_method_42_code 19 = .ok (.invokevirtual 361, 3) := by decide +kernel
theorem d_O_digest_22 : decode prog_1_method_42_code 22 = .ok (.i2l, 1) := by decide +kernel
theorem d_O_digest_23 : decode prog_1_method_42_code 23 = .ok (.ladd, 1) := by decide +kernel
theorem d_O_digest_24 : decode prog_1_method_42_code 24 = .ok (.lstore_n 1, 1) := by decide +kernel
theorem d_O_digest_25 : decode prog_1_method_42_code 25 = .ok (.iinc 3 1, 3) := by decide +kernel
theorem d_O_digest_28 : decode prog_1_method_42_code 28 = .ok (.goto (-22), 3) := by decide +kernel
theorem d_O_digest_33 : decode prog_1_method_42_code 33 = .ok (.iload_n 3, 1) := by decide +kernel
theorem d_O_digest_34 : decode prog_1_method_42_code 34 = .ok (.aload_n 0, 1) := by decide +kernel
theorem d_O_digest_35 : decode prog_1_method_42_code 35 = .ok (.getfield 27, 3) := by decide +kernel
theorem d_O_digest_38 : decode prog_1_method_42_code 38 = .ok (.getfield 112, 3) := by decide +kernel
theorem d_O_digest_41 : decode prog_1_method_42_code 41 = .ok (.if_icmp .ge 40, 3) := by decide +kernel
theorem d_O_digest_81 : decode prog_1_method_42_code 81 = .ok (.ldc2_w 359, 3) := by decide +kernel
theorem d_O_digest_84 : decode prog_1_method_42_code 84 = .ok (.lload_n 1, 1) := by decide +kernel
theorem d_O_digest_85 : decode prog_1_method_42_code 85 = .ok (.lmul, 1) := by decide +kernel
theorem d_O_digest_86 : decode prog_1_method_42_code 86 = .ok (.aload_n 0, 1) := by decide +kernel
theorem d_O_digest_87 : decode prog_1_method_42_code 87 = .ok (.invokevirtual 367, 3) := by decide +kernel
theorem d_O_digest_90 : decode prog_1_method_42_code 90 = .ok (.i2l, 1) := by decide +kernel
theorem d_O_digest_91 : decode prog_1_method_42_code 91 = .ok (.ladd, 1) := by decide +kernel
theorem d_O_digest_92 : decode prog_1_method_42_code 92 = .ok (.lstore_n 1, 1) := by decide +kernel
theorem d_O_digest_93 : decode prog_1_method_42_code 93 = .ok (.ldc2_w 359, 3) := by decide +kernel
theorem d_O_digest_96 : decode prog_1_method_42_code 96 = .ok (.lload_n 1, 1) := by decide +kernel
theorem d_O_digest_97 : decode prog_1_method_42_code 97 = .ok (.lmul, 1) := by decide +kernel
theorem d_O_digest_98 : decode prog_1_method_42_code 98 = .ok (.aload_n 0, 1) := by decide +kernel
theorem d_O_digest_99 : decode prog_1_method_42_code 99 = .ok (.invokevirtual 369, 3) := by decide +kernel
theorem d_O_digest_102 : decode prog_1_method_42_code 102 = .ok (.i2l, 1) := by decide +kernel
theorem d_O_digest_103 : decode prog_1_method_42_code 103 = .ok (.ladd, 1) := by decide +kernel
theorem d_O_digest_104 : decode prog_1_method_42_code 104 = .ok (.lstore_n 1, 1) := by decide +kernel
theorem d_O_digest_105 : decode prog_1_method_42_code 105 = .ok (.iconst 0, 1) := by decide +kernel
theorem d_O_digest_106 : decode prog_1_method_42_code 106 = .ok (.istore_n 3, 1) := by decide +kernel
theorem d_O_digest_44 : decode prog_1_method_42_code 44 = .ok (.iconst 0, 1) := by decide +kernel
theorem d_O_digest_45 : decode prog_1_method_42_code 45 = .ok (.istore 4, 2) := by decide +kernel
theorem d_O_digest_107 : decode prog_1_method_42_code 107 = .ok (.iload_n 3, 1) := by decide +kernel
theorem d_O_digest_108 : decode prog_1_method_42_code 108 = .ok (.iconst 2, 1) := by decide +kernel
theorem d_O_digest_109 : decode prog_1_method_42_code 109 = .ok (.if_icmp .gt 22, 3) := by decide +kernel
theorem d_O_digest_131 : decode prog_1_method_42_code 131 = .ok (.iconst 0, 1) := by decide +kernel
theorem d_O_digest_132 : decode prog_1_method_42_code 132 = .ok (.istore_n 3, 1) := by decide +kernel
theorem d_O_digest_112 : decode prog_1_method_42_code 112 = .ok (.ldc2_w 359, 3) := by decide +kernel
theorem d_O_digest_115 : decode prog_1_method_42_code 115 = .ok (.lload_n 1, 1) := by decide +kernel
theorem d_O_digest_116 : decode prog_1_method_42_code 116 = .ok (.lmul, 1) := by decide +kernel
theorem d_O_digest_117 : decode prog_1_method_42_code 117 = .ok (.aload_n 0, 1) := by decide +kernel
theorem d_O_digest_118 : decode prog_1_method_42_code 118 = .ok (.iload_n 3, 1) := by decide +kernel
theorem d_O_digest_119 : decode prog_1_method_42_code 119 = .ok (.invokevirtual 372, 3) := by decide +kernel
theorem d_O_digest_122 : decode prog_1_method_42_code 122 = .ok (.i2l, 1) := by decide +kernel
theorem d_O_digest_123 : decode prog_1_method_42_code 123 = .ok (.ladd, 1) := by decide +kernel
theorem d_O_digest_124 : decode prog_1_method_42_code 124 = .ok (.lstore_n 1, 1) := by decide +kernel
theorem d_O_digest_125 : decode prog_1_method_42_code 125 = .ok (.iinc 3 1, 3) := by decide +kernel
theorem d_O_digest_128 : decode prog_1_method_42_code 128 = .ok (.goto (-21), 3) := by decide +kernel
theorem d_O_digest_47 : decode prog_1_method_42_code 47 = .ok (.iload 4, 2) := by decide +kernel
theorem d_O_digest_49 : decode prog_1_method_42_code 49 = .ok (.bipush 7, 2) := by decide +kernel
theorem d_O_digest_51 : decode prog_1_method_42_code 51 = .ok (.if_icmp .gt 24, 3) := by decide +kernel
theorem d_O_digest_75 : decode prog_1_method_42_code 75 = .ok (.iinc 3 1, 3) := by decide +kernel
theorem d_O_digest_78 : decode prog_1_method_42_code 78 = .ok (.goto (-45), 3) := by decide +kernel
theorem d_O_digest_54 : decode prog_1_method_42_code 54 = .ok (.ldc2_w 359, 3) := by decide +kernel
theorem d_O_digest_57 : decode prog_1_method_42_code 57 = .ok (.lload_n 1, 1) := by decide +kernel
theorem d_O_digest_58 : decode prog_1_method_42_code 58 = .ok (.lmul, 1) := by decide +kernel
theorem d_O_digest_59 : decode prog_1_method_42_code 59 = .ok (.aload_n 0, 1) := by decide +kernel
theorem d_O_digest_60 : decode prog_1_method_42_code 60 = .ok (.iload_n 3, 1) := by decide +kernel
theorem d_O_digest_61 : decode prog_1_method_42_code 61 = .ok (.iload 4, 2) := by decide +kernel
theorem d_O_digest_63 : decode prog_1_method_42_code 63 = .ok (.invokevirtual 364, 3) := by decide +kernel
theorem d_O_digest_66 : decode prog_1_method_42_code 66 = .ok (.i2l, 1) := by decide +kernel
theorem d_O_digest_67 : decode prog_1_method_42_code 67 = .ok (.ladd, 1) := by decide +kernel
theorem d_O_digest_68 : decode prog_1_method_42_code 68 = .ok (.lstore_n 1, 1) := by decide +kernel
theorem d_O_digest_69 : decode prog_1_method_42_code 69 = .ok (.iinc 4 1, 3) := by decide +kernel
theorem d_O_digest_72 : decode prog_1_method_42_code 72 = .ok (.goto (-25), 3) := by decide +kernel
theorem d_O_digest_133 : decode prog_1_method_42_code 133 = .ok (.iload_n 3, 1) := by decide +kernel
theorem d_O_digest_134 : decode prog_1_method_42_code 134 = .ok (.iconst 3, 1) := by decide +kernel
theorem d_O_digest_135 : decode prog_1_method_42_code 135 = .ok (.if_icmp .gt 22, 3) := by decide +kernel
theorem d_O_digest_157 : decode prog_1_method_42_code 157 = .ok (.ldc2_w 359, 3) := by decide +kernel
theorem d_O_digest_160 : decode prog_1_method_42_code 160 = .ok (.lload_n 1, 1) := by decide +kernel
theorem d_O_digest_161 : decode prog_1_method_42_code 161 = .ok (.lmul, 1) := by decide +kernel
theorem d_O_digest_162 : decode prog_1_method_42_code 162 = .ok (.aload_n 0, 1) := by decide +kernel
theorem d_O_digest_163 : decode prog_1_method_42_code 163 = .ok (.bipush 63, 2) := by decide +kernel
theorem d_O_digest_165 : decode prog_1_method_42_code 165 = .ok (.invokevirtual 377, 3) := by decide +kernel
theorem d_O_digest_168 : decode prog_1_method_42_code 168 = .ok (.i2l, 1) := by decide +kernel
theorem d_O_digest_169 : decode prog_1_method_42_code 169 = .ok (.ladd, 1) := by decide +kernel
theorem d_O_digest_170 : decode prog_1_method_42_code 170 = .ok (.lstore_n 1, 1) := by decide +kernel
theorem d_O_digest_171 : decode prog_1_method_42_code 171 = .ok (.ldc2_w 359, 3) := by decide +kernel
theorem d_O_digest_174 : decode prog_1_method_42_code 174 = .ok (.lload_n 1, 1) := by decide +kernel
theorem d_O_digest_175 : decode prog_1_method_42_code 175 = .ok (.lmul, 1) := by decide +kernel
theorem d_O_digest_176 : decode prog_1_method_42_code 176 = .ok (.aload_n 0, 1) := by decide +kernel
theorem d_O_digest_177 : decode prog_1_method_42_code 177 = .ok (.iconst 0, 1) := by decide +kernel
theorem d_O_digest_178 : decode prog_1_method_42_code 178 = .ok (.iconst 1, 1) := by decide +kernel
theorem d_O_digest_179 : decode prog_1_method_42_code 179 = .ok (.iconst 0, 1) := by decide +kernel
theorem d_O_digest_180 : decode prog_1_method_42_code 180 = .ok (.invokevirtual 379, 3) := by decide +kernel
theorem d_O_digest_183 : decode prog_1_method_42_code 183 = .ok (.i2l, 1) := by decide +kernel
theorem d_O_digest_184 : decode prog_1_method_42_code 184 = .ok (.ladd, 1) := by decide +kernel
theorem d_O_digest_185 : decode prog_1_method_42_code 185 = .ok (.lstore_n 1, 1) := by decide +kernel
theorem d_O_digest_186 : decode prog_1_method_42_code 186 = .ok (.ldc2_w 359, 3) := by decide +kernel
theorem d_O_digest_189 : decode prog_1_method_42_code 189 = .ok (.lload_n 1, 1) := by decide +kernel
theorem d_O_digest_190 : decode prog_1_method_42_code 190 = .ok (.lmul, 1) := by decide +kernel
theorem d_O_digest_191 : decode prog_1_method_42_code 191 = .ok (.aload_n 0, 1) := by decide +kernel
theorem d_O_digest_192 : decode prog_1_method_42_code 192 = .ok (.iconst 0, 1) := by decide +kernel
theorem d_O_digest_193 : decode prog_1_method_42_code 193 = .ok (.iconst 1, 1) := by decide +kernel
theorem d_O_digest_194 : decode prog_1_method_42_code 194 = .ok (.iconst 1, 1) := by decide +kernel
theorem d_O_digest_195 : decode prog_1_method_42_code 195 = .ok (.invokevirtual 379, 3) := by decide +kernel
theorem d_O_digest_198 : decode prog_1_method_42_code 198 = .ok (.i2l, 1) := by decide +kernel
theorem d_O_digest_199 : decode prog_1_method_42_code 199 = .ok (.ladd, 1) := by decide +kernel
theorem d_O_digest_200 : decode prog_1_method_42_code 200 = .ok (.lreturn, 1) := by decide +kernel
theorem d_O_digest_138 : decode prog_1_method_42_code 138 = .ok (.ldc2_w 359, 3) := by decide +kernel
theorem d_O_digest_141 : decode prog_1_method_42_code 141 = .ok (.lload_n 1, 1) := by decide +kernel
theorem d_O_digest_142 : decode prog_1_method_42_code 142 = .ok (.lmul, 1) := by decide +kernel
theorem d_O_digest_143 : decode prog_1_method_42_code 143 = .ok (.aload_n 0, 1) := by decide +kernel
theorem d_O_digest_144 : decode prog_1_method_42_code 144 = .ok (.iload_n 3, 1) := by decide +kernel
theorem d_O_digest_145 : decode prog_1_method_42_code 145 = .ok (.invokevirtual 374, 3) := by decide +kernel
theorem d_O_digest_148 : decode prog_1_method_42_code 148 = .ok (.i2l, 1) := by decide +kernel
theorem d_O_digest_149 : decode prog_1_method_42_code 149 = .ok (.ladd, 1) := by decide +kernel
theorem d_O_digest_150 : decode prog_1_method_42_code 150 = .ok (.lstore_n 1, 1) := by decide +kernel
theorem d_O_digest_151 : decode prog_1_method_42_code 151 = .ok (.iinc 3 1, 3) := by decide +kernel
theorem d_O_digest_154 : decode prog_1_method_42_code 154 = .ok (.goto (-21), 3) := by decide +kernel
