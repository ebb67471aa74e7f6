theorem d_S_isDigit_0 : decode prog_10_method_6_code 0 = .ok (.iload_n 0, 1) := by decide +kernel
theorem d_S_isDigit_1 : decode prog_10_method_6_code 1 = .ok (.bipush 48, 2) := by decide +kernel
theorem d_S_isDigit_3 : decode prog_10_method_6_code 3 = .ok (.if_icmp .lt 13, 3) := by decide +kernel
theorem d_S_isDigit_16 : decode prog_10_method_6_code 16 = .ok (.iconst 0, 1) := by decide +kernel
theorem d_S_isDigit_17 : decode prog_10_method_6_code 17 = .ok (.ireturn, 1) := by decide +kernel
theorem d_S_isDigit_6 : decode prog_10_method_6_code 6 = .ok (.iload_n 0, 1) := by decide +kernel
theorem d_S_isDigit_7 : decode prog_10_method_6_code 7 = .ok (.bipush 57, 2) := by decide +kernel
theorem d_S_isDigit_9 : decode prog_10_method_6_code 9 = .ok (.if_icmp .gt 7, 3) := by decide +kernel
theorem d_S_isDigit_12 : decode prog_10_method_6_code 12 = .ok (.iconst 1, 1) := by decide +kernel
theorem d_S_isDigit_13 : decode prog_10_method_6_code 13 = .ok (.goto 4, 3) := by decide +kernel
theorem d_S_isOneSign_0 : decode prog_10_method_8_code 0 = .ok (.iload_n 0, 1) := by decide +kernel
theorem d_S_isOneSign_1 : decode prog_10_method_8_code 1 = .ok (.bipush 60, 2) := by decide +kernel
theorem d_S_isOneSign_3 : decode prog_10_method_8_code 3 = .ok (.if_icmp .eq 9, 3) := by decide +kernel
theorem d_S_isOneSign_12 : decode prog_10_method_8_code 12 = .ok (.iload_n 1, 1) := by decide +kernel
theorem d_S_isOneSign_13 : decode prog_10_method_8_code 13 = .ok (.bipush 61, 2) := by decide +kernel
theorem d_S_isOneSign_15 : decode prog_10_method_8_code 15 = .ok (.if_icmp .eq 15, 3) := by decide +kernel
theorem d_S_isOneSign_30 : decode prog_10_method_8_code 30 = .ok (.iconst 1, 1) := by decide +kernel
theorem d_S_isOneSign_31 : decode prog_10_method_8_code 31 = .ok (.goto 4, 3) := by decide +kernel
theorem d_S_isOneSign_35 : decode prog_10_method_8_code 35 = .ok (.ireturn, 1) := by decide +kernel
theorem d_S_isOneSign_18 : decode prog_10_method_8_code 18 = .ok (.iload_n 0, 1) := by decide +kernel
theorem d_S_isOneSign_19 : decode prog_10_method_8_code 19 = .ok (.bipush 60, 2) := by decide +kernel
theorem d_S_isOneSign_21 : decode prog_10_method_8_code 21 = .ok (.if_icmp .ne 13, 3) := by decide +kernel
theorem d_S_isOneSign_34 : decode prog_10_method_8_code 34 = .ok (.iconst 0, 1) := by decide +kernel
theorem d_S_isOneSign_24 : decode prog_10_method_8_code 24 = .ok (.iload_n 1, 1) := by decide +kernel
theorem d_S_isOneSign_25 : decode prog_10_method_8_code 25 = .ok (.bipush 62, 2) := by decide +kernel
theorem d_S_isOneSign_27 : decode prog_10_method_8_code 27 = .ok (.if_icmp .ne 7, 3) := by decide +kernel
theorem d_S_isOneSign_6 : decode prog_10_method_8_code 6 = .ok (.iload_n 0, 1) := by decide +kernel
theorem d_S_isOneSign_7 : decode prog_10_method_8_code 7 = .ok (.bipush 62, 2) := by decide +kernel
theorem d_S_isOneSign_9 : decode prog_10_method_8_code 9 = .ok (.if_icmp .ne 9, 3) := by decide +kernel
theorem d_S_isSmallLetter_0 : decode prog_10_method_7_code 0 = .ok (.iload_n 0, 1) := by decide +kernel
theorem d_S_isSmallLetter_1 : decode prog_10_method_7_code 1 = .ok (.bipush 97, 2) := by decide +kernel
theorem d_S_isSmallLetter_3 : decode prog_10_method_7_code 3 = .ok (.if_icmp .lt 13, 3) := by decide +kernel
theorem d_S_isSmallLetter_16 : decode prog_10_method_7_code 16 = .ok (.iconst 0, 1) := by decide +kernel
theorem d_S_isSmallLetter_17 : decode prog_10_method_7_code 17 = .ok (.ireturn, 1) := by decide +kernel
theorem d_S_isSmallLetter_6 : decode prog_10_method_7_code 6 = .ok (.iload_n 0, 1) := by decide +kernel
theorem d_S_isSmallLetter_7 : decode prog_10_method_7_code 7 = .ok (.bipush 122, 2) := by decide +kernel
theorem d_S_isSmallLetter_9 : decode prog_10_method_7_code 9 = .ok (.if_icmp .gt 7, 3) := by decide +kernel
theorem d_S_isSmallLetter_12 : decode prog_10_method_7_code 12 = .ok (.iconst 1, 1) := by decide +kernel
theorem d_S_isSmallLetter_13 : decode prog_10_method_7_code 13 = .ok (.goto 4, 3) := by decide +kernel
theorem d_S_endOf_0 : decode prog_10_method_4_code 0 = .ok (.iload_n 1, 1) := by decide +kernel
theorem d_S_endOf_1 : decode prog_10_method_4_code 1 = .ok (.iconst 1, 1) := by decide +kernel
theorem d_S_endOf_2 : decode prog_10_method_4_code 2 = .ok (.iadd, 1) := by decide +kernel
theorem d_S_endOf_3 : decode prog_10_method_4_code 3 = .ok (.istore_n 2, 1) := by decide +kernel
theorem d_S_endOf_4 : decode prog_10_method_4_code 4 = .ok (.aload_n 0, 1) := by decide +kernel
theorem d_S_endOf_5 : decode prog_10_method_4_code 5 = .ok (.getfield 24, 3) := by decide +kernel
theorem d_S_endOf_8 : decode prog_10_method_4_code 8 = .ok (.iload_n 1, 1) := by decide +kernel
theorem d_S_endOf_9 : decode prog_10_method_4_code 9 = .ok (.iaload, 1) := by decide +kernel
theorem d_S_endOf_10 : decode prog_10_method_4_code 10 = .ok (.invokestatic 69, 3) := by decide +kernel
theorem d_S_endOf_13 : decode prog_10_method_4_code 13 = .ok (.ifCond .eq 29, 3) := by decide +kernel
theorem d_S_endOf_42 : decode prog_10_method_4_code 42 = .ok (.aload_n 0, 1) := by decide +kernel
theorem d_S_endOf_43 : decode prog_10_method_4_code 43 = .ok (.getfield 24, 3) := by decide +kernel
theorem d_S_endOf_46 : decode prog_10_method_4_code 46 = .ok (.iload_n 1, 1) := by decide +kernel
theorem d_S_endOf_47 : decode prog_10_method_4_code 47 = .ok (.iaload, 1) := by decide +kernel
theorem d_S_endOf_48 : decode prog_10_method_4_code 48 = .ok (.invokestatic 40, 3) := by decide +kernel
theorem d_S_endOf_51 : decode prog_10_method_4_code 51 = .ok (.ifCond .eq 29, 3) := by decide +kernel
theorem d_S_endOf_80 : decode prog_10_method_4_code 80 = .ok (.iload_n 2, 1) := by decide +kernel
theorem d_S_endOf_81 : decode prog_10_method_4_code 81 = .ok (.aload_n 0, 1) := by decide +kernel
theorem d_S_endOf_82 : decode prog_10_method_4_code 82 = .ok (.getfield 33, 3) := by decide +kernel
theorem d_S_endOf_85 : decode prog_10_method_4_code 85 = .ok (.if_icmp .ge 24, 3) := by decide +kernel
theorem d_S_endOf_109 : decode prog_10_method_4_code 109 = .ok (.iload_n 2, 1) := by decide +kernel
theorem d_S_endOf_110 : decode prog_10_method_4_code 110 = .ok (.ireturn, 1) := by decide +kernel
theorem d_S_endOf_88 : decode prog_10_method_4_code 88 = .ok (.aload_n 0, 1) := by decide +kernel
theorem d_S_endOf_89 : decode prog_10_method_4_code 89 = .ok (.getfield 24, 3) := by decide +kernel
theorem d_S_endOf_92 : decode prog_10_method_4_code 92 = .ok (.iload_n 1, 1) := by decide +kernel
theorem d_S_endOf_93 : decode prog_10_method_4_code 93 = .ok (.iaload, 1) := by decide +kernel
theorem d_S_endOf_94 : decode prog_10_method_4_code 94 = .ok (.aload_n 0, 1) := by decide +kernel
theorem d_S_endOf_95 : decode prog_10_method_4_code 95 = .ok (.getfield 24, 3) := by decide +kernel
theorem d_S_endOf_98 : decode prog_10_method_4_code 98 = .ok (.iload_n 2, 1) := by decide +kernel
theorem d_S_endOf_99 : decode prog_10_method_4_code 99 = .ok (.iaload, 1) := by decide +kernel
theorem d_S_endOf_100 : decode prog_10_method_4_code 100 = .ok (.invokestatic 72, 3) := by decide +kernel
theorem d_S_endOf_103 : decode prog_10_method_4_code 103 = .ok (.ifCond .eq 6, 3) := by decide +kernel
theorem d_S_endOf_106 : decode prog_10_method_4_code 106 = .ok (.iinc 2 1, 3) := by decide +kernel
theorem d_S_endOf_54 : decode prog_10_method_4_code 54 = .ok (.iload_n 2, 1) := by decide +kernel
theorem d_S_endOf_55 : decode prog_10_method_4_code 55 = .ok (.aload_n 0, 1) := by decide +kernel
theorem d_S_endOf_56 : decode prog_10_method_4_code 56 = .ok (.getfield 33, 3) := by decide +kernel
theorem d_S_endOf_59 : decode prog_10_method_4_code 59 = .ok (.if_icmp .ge 50, 3) := by decide +kernel
theorem d_S_endOf_62 : decode prog_10_method_4_code 62 = .ok (.aload_n 0, 1) := by decide +kernel
theorem d_S_endOf_63 : decode prog_10_method_4_code 63 = .ok (.getfield 24, 3) := by decide +kernel
theorem d_S_endOf_66 : decode prog_10_method_4_code 66 = .ok (.iload_n 2, 1) := by decide +kernel
theorem d_S_endOf_67 : decode prog_10_method_4_code 67 = .ok (.iaload, 1) := by decide +kernel
theorem d_S_endOf_68 : decode prog_10_method_4_code 68 = .ok (.invokestatic 40, 3) := by decide +kernel
theorem d_S_endOf_71 : decode prog_10_method_4_code 71 = .ok (.ifCond .eq 38, 3) := by decide +kernel
theorem d_S_endOf_74 : decode prog_10_method_4_code 74 = .ok (.iinc 2 1, 3) := by decide +kernel
theorem d_S_endOf_77 : decode prog_10_method_4_code 77 = .ok (.goto (-23), 3) := by decide +kernel
theorem d_S_endOf_16 : decode prog_10_method_4_code 16 = .ok (.iload_n 2, 1) := by decide +kernel
theorem d_S_endOf_17 : decode prog_10_method_4_code 17 = .ok (.aload_n 0, 1) := by decide +kernel
theorem d_S_endOf_18 : decode prog_10_method_4_code 18 = .ok (.getfield 33, 3) := by decide +kernel
theorem d_S_endOf_21 : decode prog_10_method_4_code 21 = .ok (.if_icmp .ge 88, 3) := by decide +kernel
theorem d_S_endOf_24 : decode prog_10_method_4_code 24 = .ok (.aload_n 0, 1) := by decide +kernel
theorem d_S_endOf_25 : decode prog_10_method_4_code 25 = .ok (.getfield 24, 3) := by decide +kernel
theorem d_S_endOf_28 : decode prog_10_method_4_code 28 = .ok (.iload_n 2, 1) := by decide +kernel
theorem d_S_endOf_29 : decode prog_10_method_4_code 29 = .ok (.iaload, 1) := by decide +kernel
theorem d_S_endOf_30 : decode prog_10_method_4_code 30 = .ok (.invokestatic 69, 3) := by decide +kernel
theorem d_S_endOf_33 : decode prog_10_method_4_code 33 = .ok (.ifCond .eq 76, 3) := by decide +kernel
theorem d_S_endOf_36 : decode prog_10_method_4_code 36 = .ok (.iinc 2 1, 3) := by decide +kernel
theorem d_S_endOf_39 : decode prog_10_method_4_code 39 = .ok (.goto (-23), 3) := by decide +kernel
theorem d_S_put_0 : decode prog_10_method_3_code 0 = .ok (.aload_n 0, 1) := by decide +kernel
theorem d_S_put_1 : decode prog_10_method_3_code 1 = .ok (.getfield 37, 3) := by decide +kernel
theorem d_S_put_4 : decode prog_10_method_3_code 4 = .ok (.aload_n 0, 1) := by decide +kernel
theorem d_S_put_5 : decode prog_10_method_3_code 5 = .ok (.getfield 11, 3) := by decide +kernel
theorem d_S_put_8 : decode prog_10_method_3_code 8 = .ok (.arraylength, 1) := by decide +kernel
theorem d_S_put_9 : decode prog_10_method_3_code 9 = .ok (.if_icmp .ge 43, 3) := by decide +kernel
theorem d_S_put_52 : decode prog_10_method_3_code 52 = .ok (.return_, 1) := by decide +kernel
theorem d_S_put_12 : decode prog_10_method_3_code 12 = .ok (.aload_n 0, 1) := by decide +kernel
theorem d_S_put_13 : decode prog_10_method_3_code 13 = .ok (.getfield 11, 3) := by decide +kernel
theorem d_S_put_16 : decode prog_10_method_3_code 16 = .ok (.aload_n 0, 1) := by decide +kernel
theorem d_S_put_17 : decode prog_10_method_3_code 17 = .ok (.getfield 37, 3) := by decide +kernel
theorem d_S_put_20 : decode prog_10_method_3_code 20 = .ok (.aload_n 1, 1) := by decide +kernel
theorem d_S_put_21 : decode prog_10_method_3_code 21 = .ok (.aastore, 1) := by decide +kernel
theorem d_S_put_22 : decode prog_10_method_3_code 22 = .ok (.aload_n 0, 1) := by decide +kernel
theorem d_S_put_23 : decode prog_10_method_3_code 23 = .ok (.getfield 17, 3) := by decide +kernel
theorem d_S_put_26 : decode prog_10_method_3_code 26 = .ok (.aload_n 0, 1) := by decide +kernel
theorem d_S_put_27 : decode prog_10_method_3_code 27 = .ok (.getfield 37, 3) := by decide +kernel
theorem d_S_put_30 : decode prog_10_method_3_code 30 = .ok (.iload_n 2, 1) := by decide +kernel
theorem d_S_put_31 : decode prog_10_method_3_code 31 = .ok (.iastore, 1) := by decide +kernel
theorem d_S_put_32 : decode prog_10_method_3_code 32 = .ok (.aload_n 0, 1) := by decide +kernel
theorem d_S_put_33 : decode prog_10_method_3_code 33 = .ok (.getfield 21, 3) := by decide +kernel
theorem d_S_put_36 : decode prog_10_method_3_code 36 = .ok (.aload_n 0, 1) := by decide +kernel
theorem d_S_put_37 : decode prog_10_method_3_code 37 = .ok (.getfield 37, 3) := by decide +kernel
theorem d_S_put_40 : decode prog_10_method_3_code 40 = .ok (.iload_n 3, 1) := by decide +kernel
theorem d_S_put_41 : decode prog_10_method_3_code 41 = .ok (.iastore, 1) := by decide +kernel
theorem d_S_put_42 : decode prog_10_method_3_code 42 = .ok (.aload_n 0, 1) := by decide +kernel
theorem d_S_put_43 : decode prog_10_method_3_code 43 = .ok (.dup, 1) := by decide +kernel
theorem d_S_put_44 : decode prog_10_method_3_code 44 = .ok (.getfield 37, 3) := by decide +kernel
theorem d_S_put_47 : decode prog_10_method_3_code 47 = .ok (.iconst 1, 1) := by decide +kernel
theorem d_S_put_48 : decode prog_10_method_3_code 48 = .ok (.iadd, 1) := by decide +kernel
theorem d_S_put_49 : decode prog_10_method_3_code 49 = .ok (.putfield 37, 3) := by decide +kernel
theorem d_S_worthOf_0 : decode prog_10_method_5_code 0 = .ok (.iconst 0, 1) := by decide +kernel
theorem d_S_worthOf_1 : decode prog_10_method_5_code 1 = .ok (.istore_n 2, 1) := by decide +kernel
theorem d_S_worthOf_2 : decode prog_10_method_5_code 2 = .ok (.iload_n 1, 1) := by decide +kernel
theorem d_S_worthOf_3 : decode prog_10_method_5_code 3 = .ok (.istore_n 3, 1) := by decide +kernel
theorem d_S_worthOf_4 : decode prog_10_method_5_code 4 = .ok (.iload_n 3, 1) := by decide +kernel
theorem d_S_worthOf_5 : decode prog_10_method_5_code 5 = .ok (.aload_n 0, 1) := by decide +kernel
theorem d_S_worthOf_6 : decode prog_10_method_5_code 6 = .ok (.getfield 33, 3) := by decide +kernel
theorem d_S_worthOf_9 : decode prog_10_method_5_code 9 = .ok (.if_icmp .ge 42, 3) := by decide +kernel
theorem d_S_worthOf_12 : decode prog_10_method_5_code 12 = .ok (.aload_n 0, 1) := by decide +kernel
theorem d_S_worthOf_13 : decode prog_10_method_5_code 13 = .ok (.getfield 24, 3) := by decide +kernel
theorem d_S_worthOf_16 : decode prog_10_method_5_code 16 = .ok (.iload_n 3, 1) := by decide +kernel
theorem d_S_worthOf_17 : decode prog_10_method_5_code 17 = .ok (.iaload, 1) := by decide +kernel
theorem d_S_worthOf_18 : decode prog_10_method_5_code 18 = .ok (.invokestatic 40, 3) := by decide +kernel
theorem d_S_worthOf_21 : decode prog_10_method_5_code 21 = .ok (.ifCond .eq 30, 3) := by decide +kernel
theorem d_S_worthOf_24 : decode prog_10_method_5_code 24 = .ok (.sipush 1000, 3) := by decide +kernel
theorem d_S_worthOf_27 : decode prog_10_method_5_code 27 = .ok (.iload_n 2, 1) := by decide +kernel
theorem d_S_worthOf_28 : decode prog_10_method_5_code 28 = .ok (.bipush 10, 2) := by decide +kernel
theorem d_S_worthOf_30 : decode prog_10_method_5_code 30 = .ok (.imul, 1) := by decide +kernel
theorem d_S_worthOf_31 : decode prog_10_method_5_code 31 = .ok (.aload_n 0, 1) := by decide +kernel
theorem d_S_worthOf_32 : decode prog_10_method_5_code 32 = .ok (.getfield 24, 3) := by decide +kernel
theorem d_S_worthOf_35 : decode prog_10_method_5_code 35 = .ok (.iload_n 3, 1) := by decide +kernel
theorem d_S_worthOf_36 : decode prog_10_method_5_code 36 = .ok (.iaload, 1) := by decide +kernel
theorem d_S_worthOf_37 : decode prog_10_method_5_code 37 = .ok (.iadd, 1) := by decide +kernel
theorem d_S_worthOf_38 : decode prog_10_method_5_code 38 = .ok (.bipush 48, 2) := by decide +kernel
theorem d_S_worthOf_40 : decode prog_10_method_5_code 40 = .ok (.isub, 1) := by decide +kernel
theorem d_S_worthOf_41 : decode prog_10_method_5_code 41 = .ok (.invokestatic 27, 3) := by decide +kernel
theorem d_S_worthOf_44 : decode prog_10_method_5_code 44 = .ok (.istore_n 2, 1) := by decide +kernel
theorem d_S_worthOf_45 : decode prog_10_method_5_code 45 = .ok (.iinc 3 1, 3) := by decide +kernel
theorem d_S_worthOf_48 : decode prog_10_method_5_code 48 = .ok (.goto (-44), 3) := by decide +kernel
theorem d_S_worthOf_51 : decode prog_10_method_5_code 51 = .ok (.iload_n 2, 1) := by decide +kernel
theorem d_S_worthOf_52 : decode prog_10_method_5_code 52 = .ok (.ireturn, 1) := by decide +kernel
theorem d_C_bit_0 : decode prog_1_method_44_code 0 = .ok (.iconst 1, 1) := by decide +kernel
theorem d_C_bit_1 : decode prog_1_method_44_code 1 = .ok (.iload_n 0, 1) := by decide +kernel
theorem d_C_bit_2 : decode prog_1_method_44_code 2 = .ok (.ishl, 1) := by decide +kernel
theorem d_C_bit_3 : decode prog_1_method_44_code 3 = .ok (.ireturn, 1) := by decide +kernel
theorem d_C_isIn_0 : decode prog_1_method_45_code 0 = .ok (.iload_n 1, 1) := by decide +kernel
theorem d_C_isIn_1 : decode prog_1_method_45_code 1 = .ok (.ifCond .lt 22, 3) := by decide +kernel
theorem d_C_isIn_23 : decode prog_1_method_45_code 23 = .ok (.iconst 0, 1) := by decide +kernel
theorem d_C_isIn_24 : decode prog_1_method_45_code 24 = .ok (.ireturn, 1) := by decide +kernel
theorem d_C_isIn_4 : decode prog_1_method_45_code 4 = .ok (.iload_n 1, 1) := by decide +kernel
theorem d_C_isIn_5 : decode prog_1_method_45_code 5 = .ok (.bipush 30, 2) := by decide +kernel
theorem d_C_isIn_7 : decode prog_1_method_45_code 7 = .ok (.if_icmp .ge 16, 3) := by decide +kernel
theorem d_C_isIn_10 : decode prog_1_method_45_code 10 = .ok (.iload_n 0, 1) := by decide +kernel
theorem d_C_isIn_11 : decode prog_1_method_45_code 11 = .ok (.iload_n 1, 1) := by decide +kernel
theorem d_C_isIn_12 : decode prog_1_method_45_code 12 = .ok (.ishr, 1) := by decide +kernel
theorem d_C_isIn_13 : decode prog_1_method_45_code 13 = .ok (.iconst 1, 1) := by decide +kernel
theorem d_C_isIn_14 : decode prog_1_method_45_code 14 = .ok (.iand, 1) := by decide +kernel
theorem d_C_isIn_15 : decode prog_1_method_45_code 15 = .ok (.iconst 1, 1) := by decide +kernel
theorem d_C_isIn_16 : decode prog_1_method_45_code 16 = .ok (.if_icmp .ne 7, 3) := by decide +kernel
theorem d_C_isIn_19 : decode prog_1_method_45_code 19 = .ok (.iconst 1, 1) := by decide +kernel
theorem d_C_isIn_20 : decode prog_1_method_45_code 20 = .ok (.goto 4, 3) := by decide +kernel
theorem d_C_isWriter_0 : decode prog_1_method_42_code 0 = .ok (.iload_n 0, 1) := by decide +kernel
theorem d_C_isWriter_1 : decode prog_1_method_42_code 1 = .ok (.ifCond .lt 13, 3) := by decide +kernel
theorem d_C_isWriter_14 : decode prog_1_method_42_code 14 = .ok (.iconst 0, 1) := by decide +kernel
theorem d_C_isWriter_15 : decode prog_1_method_42_code 15 = .ok (.ireturn, 1) := by decide +kernel
theorem d_C_isWriter_4 : decode prog_1_method_42_code 4 = .ok (.iload_n 0, 1) := by decide +kernel
theorem d_C_isWriter_5 : decode prog_1_method_42_code 5 = .ok (.bipush 6, 2) := by decide +kernel
theorem d_C_isWriter_7 : decode prog_1_method_42_code 7 = .ok (.if_icmp .ge 7, 3) := by decide +kernel
theorem d_C_isWriter_10 : decode prog_1_method_42_code 10 = .ok (.iconst 1, 1) := by decide +kernel
theorem d_C_isWriter_11 : decode prog_1_method_42_code 11 = .ok (.goto 4, 3) := by decide +kernel
theorem d_L_allOf_0 : decode prog_7_method_7_code 0 = .ok (.iconst 0, 1) := by decide +kernel
theorem d_L_allOf_1 : decode prog_7_method_7_code 1 = .ok (.istore_n 3, 1) := by decide +kernel
theorem d_L_allOf_2 : decode prog_7_method_7_code 2 = .ok (.iconst 0, 1) := by decide +kernel
theorem d_L_allOf_3 : decode prog_7_method_7_code 3 = .ok (.istore 4, 2) := by decide +kernel
theorem d_L_allOf_5 : decode prog_7_method_7_code 5 = .ok (.iload 4, 2) := by decide +kernel
theorem d_L_allOf_7 : decode prog_7_method_7_code 7 = .ok (.aload_n 0, 1) := by decide +kernel
theorem d_L_allOf_8 : decode prog_7_method_7_code 8 = .ok (.getfield 57, 3) := by decide +kernel
theorem d_L_allOf_11 : decode prog_7_method_7_code 11 = .ok (.if_icmp .ge 25, 3) := by decide +kernel
theorem d_L_allOf_14 : decode prog_7_method_7_code 14 = .ok (.iload_n 1, 1) := by decide +kernel
theorem d_L_allOf_15 : decode prog_7_method_7_code 15 = .ok (.iload 4, 2) := by decide +kernel
theorem d_L_allOf_17 : decode prog_7_method_7_code 17 = .ok (.invokestatic 68, 3) := by decide +kernel
theorem d_L_allOf_20 : decode prog_7_method_7_code 20 = .ok (.ifCond .eq 10, 3) := by decide +kernel
theorem d_L_allOf_30 : decode prog_7_method_7_code 30 = .ok (.iinc 4 1, 3) := by decide +kernel
theorem d_L_allOf_33 : decode prog_7_method_7_code 33 = .ok (.goto (-28), 3) := by decide +kernel
theorem d_L_allOf_23 : decode prog_7_method_7_code 23 = .ok (.iload_n 3, 1) := by decide +kernel
theorem d_L_allOf_24 : decode prog_7_method_7_code 24 = .ok (.aload_n 2, 1) := by decide +kernel
theorem d_L_allOf_25 : decode prog_7_method_7_code 25 = .ok (.iload 4, 2) := by decide +kernel
theorem d_L_allOf_27 : decode prog_7_method_7_code 27 = .ok (.iaload, 1) := by decide +kernel
theorem d_L_allOf_28 : decode prog_7_method_7_code 28 = .ok (.ior, 1) := by decide +kernel
theorem d_L_allOf_29 : decode prog_7_method_7_code 29 = .ok (.istore_n 3, 1) := by decide +kernel
theorem d_L_allOf_36 : decode prog_7_method_7_code 36 = .ok (.iload_n 3, 1) := by decide +kernel
theorem d_L_allOf_37 : decode prog_7_method_7_code 37 = .ok (.ireturn, 1) := by decide +kernel
theorem d_L_answered_0 : decode prog_7_method_9_code 0 = .ok (.iconst 0, 1) := by decide +kernel
theorem d_L_answered_1 : decode prog_7_method_9_code 1 = .ok (.istore_n 2, 1) := by decide +kernel
theorem d_L_answered_2 : decode prog_7_method_9_code 2 = .ok (.aload_n 0, 1) := by decide +kernel
theorem d_L_answered_3 : decode prog_7_method_9_code 3 = .ok (.getfield 24, 3) := by decide +kernel
theorem d_L_answered_6 : decode prog_7_method_9_code 6 = .ok (.iload_n 1, 1) := by decide +kernel
theorem d_L_answered_7 : decode prog_7_method_9_code 7 = .ok (.iaload, 1) := by decide +kernel
theorem d_L_answered_8 : decode prog_7_method_9_code 8 = .ok (.iconst (-1), 1) := by decide +kernel
theorem d_L_answered_9 : decode prog_7_method_9_code 9 = .ok (.if_icmp .eq 15, 3) := by decide +kernel
theorem d_L_answered_24 : decode prog_7_method_9_code 24 = .ok (.aload_n 0, 1) := by decide +kernel
theorem d_L_answered_25 : decode prog_7_method_9_code 25 = .ok (.getfield 27, 3) := by decide +kernel
theorem d_L_answered_28 : decode prog_7_method_9_code 28 = .ok (.iload_n 1, 1) := by decide +kernel
theorem d_L_answered_29 : decode prog_7_method_9_code 29 = .ok (.iaload, 1) := by decide +kernel
theorem d_L_answered_30 : decode prog_7_method_9_code 30 = .ok (.iconst (-1), 1) := by decide +kernel
theorem d_L_answered_31 : decode prog_7_method_9_code 31 = .ok (.if_icmp .eq 15, 3) := by decide +kernel
theorem d_L_answered_46 : decode prog_7_method_9_code 46 = .ok (.iload_n 2, 1) := by decide +kernel
theorem d_L_answered_47 : decode prog_7_method_9_code 47 = .ok (.ireturn, 1) := by decide +kernel
theorem d_L_answered_34 : decode prog_7_method_9_code 34 = .ok (.iload_n 2, 1) := by decide +kernel
theorem d_L_answered_35 : decode prog_7_method_9_code 35 = .ok (.aload_n 0, 1) := by decide +kernel
theorem d_L_answered_36 : decode prog_7_method_9_code 36 = .ok (.getfield 27, 3) := by decide +kernel
theorem d_L_answered_39 : decode prog_7_method_9_code 39 = .ok (.iload_n 1, 1) := by decide +kernel
theorem d_L_answered_40 : decode prog_7_method_9_code 40 = .ok (.iaload, 1) := by decide +kernel
theorem d_L_answered_41 : decode prog_7_method_9_code 41 = .ok (.invokestatic 72, 3) := by decide +kernel
theorem d_L_answered_44 : decode prog_7_method_9_code 44 = .ok (.ior, 1) := by decide +kernel
theorem d_L_answered_45 : decode prog_7_method_9_code 45 = .ok (.istore_n 2, 1) := by decide +kernel
theorem d_L_answered_12 : decode prog_7_method_9_code 12 = .ok (.iload_n 2, 1) := by decide +kernel
theorem d_L_answered_13 : decode prog_7_method_9_code 13 = .ok (.aload_n 0, 1) := by decide +kernel
theorem d_L_answered_14 : decode prog_7_method_9_code 14 = .ok (.getfield 24, 3) := by decide +kernel
theorem d_L_answered_17 : decode prog_7_method_9_code 17 = .ok (.iload_n 1, 1) := by decide +kernel
theorem d_L_answered_18 : decode prog_7_method_9_code 18 = .ok (.iaload, 1) := by decide +kernel
theorem d_L_answered_19 : decode prog_7_method_9_code 19 = .ok (.invokestatic 72, 3) := by decide +kernel
theorem d_L_answered_22 : decode prog_7_method_9_code 22 = .ok (.ior, 1) := by decide +kernel
theorem d_L_answered_23 : decode prog_7_method_9_code 23 = .ok (.istore_n 2, 1) := by decide +kernel
theorem d_L_greatestSum_0 : decode prog_7_method_8_code 0 = .ok (.iconst 0, 1) := by decide +kernel
theorem d_L_greatestSum_1 : decode prog_7_method_8_code 1 = .ok (.istore_n 2, 1) := by decide +kernel
theorem d_L_greatestSum_2 : decode prog_7_method_8_code 2 = .ok (.iconst 0, 1) := by decide +kernel
theorem d_L_greatestSum_3 : decode prog_7_method_8_code 3 = .ok (.istore_n 3, 1) := by decide +kernel
theorem d_L_greatestSum_4 : decode prog_7_method_8_code 4 = .ok (.iload_n 3, 1) := by decide +kernel
theorem d_L_greatestSum_5 : decode prog_7_method_8_code 5 = .ok (.aload_n 0, 1) := by decide +kernel
theorem d_L_greatestSum_6 : decode prog_7_method_8_code 6 = .ok (.getfield 57, 3) := by decide +kernel
theorem d_L_greatestSum_9 : decode prog_7_method_8_code 9 = .ok (.if_icmp .ge 28, 3) := by decide +kernel
theorem d_L_greatestSum_12 : decode prog_7_method_8_code 12 = .ok (.iload_n 1, 1) := by decide +kernel
theorem d_L_greatestSum_13 : decode prog_7_method_8_code 13 = .ok (.iload_n 3, 1) := by decide +kernel
theorem d_L_greatestSum_14 : decode prog_7_method_8_code 14 = .ok (.invokestatic 68, 3) := by decide +kernel
theorem d_L_greatestSum_17 : decode prog_7_method_8_code 17 = .ok (.ifCond .eq 14, 3) := by decide +kernel
theorem d_L_greatestSum_31 : decode prog_7_method_8_code 31 = .ok (.iinc 3 1, 3) := by decide +kernel
theorem d_L_greatestSum_34 : decode prog_7_method_8_code 34 = .ok (.goto (-30), 3) := by decide +kernel
theorem d_L_greatestSum_20 : decode prog_7_method_8_code 20 = .ok (.iload_n 2, 1) := by decide +kernel
theorem d_L_greatestSum_21 : decode prog_7_method_8_code 21 = .ok (.aload_n 0, 1) := by decide +kernel
theorem d_L_greatestSum_22 : decode prog_7_method_8_code 22 = .ok (.getfield 45, 3) := by decide +kernel
theorem d_L_greatestSum_25 : decode prog_7_method_8_code 25 = .ok (.iload_n 3, 1) := by decide +kernel
theorem d_L_greatestSum_26 : decode prog_7_method_8_code 26 = .ok (.iaload, 1) := by decide +kernel
theorem d_L_greatestSum_27 : decode prog_7_method_8_code 27 = .ok (.invokestatic 89, 3) := by decide +kernel
theorem d_L_greatestSum_30 : decode prog_7_method_8_code 30 = .ok (.istore_n 2, 1) := by decide +kernel
theorem d_L_greatestSum_37 : decode prog_7_method_8_code 37 = .ok (.iload_n 2, 1) := by decide +kernel
theorem d_L_greatestSum_38 : decode prog_7_method_8_code 38 = .ok (.ireturn, 1) := by decide +kernel
theorem d_L_add_0 : decode prog_7_method_6_code 0 = .ok (.aload_n 0, 1) := by decide +kernel
theorem d_L_add_1 : decode prog_7_method_6_code 1 = .ok (.getfield 57, 3) := by decide +kernel
theorem d_L_add_4 : decode prog_7_method_6_code 4 = .ok (.bipush 30, 2) := by decide +kernel
theorem d_L_add_6 : decode prog_7_method_6_code 6 = .ok (.if_icmp .ge 10, 3) := by decide +kernel
theorem d_L_add_16 : decode prog_7_method_6_code 16 = .ok (.iconst (-1), 1) := by decide +kernel
theorem d_L_add_17 : decode prog_7_method_6_code 17 = .ok (.ireturn, 1) := by decide +kernel
theorem d_L_add_9 : decode prog_7_method_6_code 9 = .ok (.iload_n 1, 1) := by decide +kernel
theorem d_L_add_10 : decode prog_7_method_6_code 10 = .ok (.invokestatic 76, 3) := by decide +kernel
theorem d_L_add_13 : decode prog_7_method_6_code 13 = .ok (.ifCond .ne 5, 3) := by decide +kernel
theorem d_L_add_18 : decode prog_7_method_6_code 18 = .ok (.aload_n 0, 1) := by decide +kernel
theorem d_L_add_19 : decode prog_7_method_6_code 19 = .ok (.getfield 57, 3) := by decide +kernel
theorem d_L_add_22 : decode prog_7_method_6_code 22 = .ok (.istore 8, 2) := by decide +kernel
theorem d_L_add_24 : decode prog_7_method_6_code 24 = .ok (.aload_n 0, 1) := by decide +kernel
theorem d_L_add_25 : decode prog_7_method_6_code 25 = .ok (.getfield 9, 3) := by decide +kernel
theorem d_L_add_28 : decode prog_7_method_6_code 28 = .ok (.iload 8, 2) := by decide +kernel
theorem d_L_add_30 : decode prog_7_method_6_code 30 = .ok (.iload_n 1, 1) := by decide +kernel
theorem d_L_add_31 : decode prog_7_method_6_code 31 = .ok (.iastore, 1) := by decide +kernel
theorem d_L_add_32 : decode prog_7_method_6_code 32 = .ok (.aload_n 0, 1) := by decide +kernel
theorem d_L_add_33 : decode prog_7_method_6_code 33 = .ok (.getfield 15, 3) := by decide +kernel
theorem d_L_add_36 : decode prog_7_method_6_code 36 = .ok (.iload 8, 2) := by decide +kernel
theorem d_L_add_38 : decode prog_7_method_6_code 38 = .ok (.iload_n 2, 1) := by decide +kernel
theorem d_L_add_39 : decode prog_7_method_6_code 39 = .ok (.iastore, 1) := by decide +kernel
theorem d_L_add_40 : decode prog_7_method_6_code 40 = .ok (.aload_n 0, 1) := by decide +kernel
theorem d_L_add_41 : decode prog_7_method_6_code 41 = .ok (.getfield 18, 3) := by decide +kernel
theorem d_L_add_44 : decode prog_7_method_6_code 44 = .ok (.iload 8, 2) := by decide +kernel
theorem d_L_add_46 : decode prog_7_method_6_code 46 = .ok (.iload_n 3, 1) := by decide +kernel
theorem d_L_add_47 : decode prog_7_method_6_code 47 = .ok (.iastore, 1) := by decide +kernel
theorem d_L_add_48 : decode prog_7_method_6_code 48 = .ok (.aload_n 0, 1) := by decide +kernel
theorem d_L_add_49 : decode prog_7_method_6_code 49 = .ok (.getfield 21, 3) := by decide +kernel
theorem d_L_add_52 : decode prog_7_method_6_code 52 = .ok (.iload 8, 2) := by decide +kernel
theorem d_L_add_54 : decode prog_7_method_6_code 54 = .ok (.iload 4, 2) := by decide +kernel
theorem d_L_add_56 : decode prog_7_method_6_code 56 = .ok (.iastore, 1) := by decide +kernel
theorem d_L_add_57 : decode prog_7_method_6_code 57 = .ok (.aload_n 0, 1) := by decide +kernel
theorem d_L_add_58 : decode prog_7_method_6_code 58 = .ok (.getfield 24, 3) := by decide +kernel
theorem d_L_add_61 : decode prog_7_method_6_code 61 = .ok (.iload 8, 2) := by decide +kernel
theorem d_L_add_63 : decode prog_7_method_6_code 63 = .ok (.iload 5, 2) := by decide +kernel
theorem d_L_add_65 : decode prog_7_method_6_code 65 = .ok (.iastore, 1) := by decide +kernel
theorem d_L_add_66 : decode prog_7_method_6_code 66 = .ok (.aload_n 0, 1) := by decide +kernel
theorem d_L_add_67 : decode prog_7_method_6_code 67 = .ok (.getfield 27, 3) := by decide +kernel
theorem d_L_add_70 : decode prog_7_method_6_code 70 = .ok (.iload 8, 2) := by decide +kernel
theorem d_L_add_72 : decode prog_7_method_6_code 72 = .ok (.iload 6, 2) := by decide +kernel
theorem d_L_add_74 : decode prog_7_method_6_code 74 = .ok (.iastore, 1) := by decide +kernel
theorem d_L_add_75 : decode prog_7_method_6_code 75 = .ok (.aload_n 0, 1) := by decide +kernel
theorem d_L_add_76 : decode prog_7_method_6_code 76 = .ok (.getfield 30, 3) := by decide +kernel
theorem d_L_add_79 : decode prog_7_method_6_code 79 = .ok (.iload 8, 2) := by decide +kernel
theorem d_L_add_81 : decode prog_7_method_6_code 81 = .ok (.iload 7, 2) := by decide +kernel
theorem d_L_add_83 : decode prog_7_method_6_code 83 = .ok (.iastore, 1) := by decide +kernel
theorem d_L_add_84 : decode prog_7_method_6_code 84 = .ok (.aload_n 0, 1) := by decide +kernel
theorem d_L_add_85 : decode prog_7_method_6_code 85 = .ok (.getfield 33, 3) := by decide +kernel
theorem d_L_add_88 : decode prog_7_method_6_code 88 = .ok (.iload 8, 2) := by decide +kernel
theorem d_L_add_90 : decode prog_7_method_6_code 90 = .ok (.iload 7, 2) := by decide +kernel
theorem d_L_add_92 : decode prog_7_method_6_code 92 = .ok (.aload_n 0, 1) := by decide +kernel
theorem d_L_add_93 : decode prog_7_method_6_code 93 = .ok (.iload 7, 2) := by decide +kernel
theorem d_L_add_95 : decode prog_7_method_6_code 95 = .ok (.aload_n 0, 1) := by decide +kernel
theorem d_L_add_96 : decode prog_7_method_6_code 96 = .ok (.getfield 33, 3) := by decide +kernel
theorem d_L_add_99 : decode prog_7_method_6_code 99 = .ok (.invokevirtual 79, 3) := by decide +kernel
theorem d_L_add_102 : decode prog_7_method_6_code 102 = .ok (.ior, 1) := by decide +kernel
theorem d_L_add_103 : decode prog_7_method_6_code 103 = .ok (.iastore, 1) := by decide +kernel
theorem d_L_add_104 : decode prog_7_method_6_code 104 = .ok (.aload_n 0, 1) := by decide +kernel
theorem d_L_add_105 : decode prog_7_method_6_code 105 = .ok (.getfield 36, 3) := by decide +kernel
theorem d_L_add_108 : decode prog_7_method_6_code 108 = .ok (.iload 8, 2) := by decide +kernel
theorem d_L_add_110 : decode prog_7_method_6_code 110 = .ok (.aload_n 0, 1) := by decide +kernel
theorem d_L_add_111 : decode prog_7_method_6_code 111 = .ok (.iload 8, 2) := by decide +kernel
theorem d_L_add_113 : decode prog_7_method_6_code 113 = .ok (.invokevirtual 83, 3) := by decide +kernel
theorem d_L_add_116 : decode prog_7_method_6_code 116 = .ok (.aload_n 0, 1) := by decide +kernel
theorem d_L_add_117 : decode prog_7_method_6_code 117 = .ok (.aload_n 0, 1) := by decide +kernel
theorem d_L_add_118 : decode prog_7_method_6_code 118 = .ok (.iload 8, 2) := by decide +kernel
theorem d_L_add_120 : decode prog_7_method_6_code 120 = .ok (.invokevirtual 83, 3) := by decide +kernel
theorem d_L_add_123 : decode prog_7_method_6_code 123 = .ok (.aload_n 0, 1) := by decide +kernel
theorem d_L_add_124 : decode prog_7_method_6_code 124 = .ok (.getfield 36, 3) := by decide +kernel
theorem d_L_add_127 : decode prog_7_method_6_code 127 = .ok (.invokevirtual 79, 3) := by decide +kernel
theorem d_L_add_130 : decode prog_7_method_6_code 130 = .ok (.ior, 1) := by decide +kernel
theorem d_L_add_131 : decode prog_7_method_6_code 131 = .ok (.iastore, 1) := by decide +kernel
theorem d_L_add_132 : decode prog_7_method_6_code 132 = .ok (.aload_n 0, 1) := by decide +kernel
theorem d_L_add_133 : decode prog_7_method_6_code 133 = .ok (.getfield 39, 3) := by decide +kernel
theorem d_L_add_136 : decode prog_7_method_6_code 136 = .ok (.iload 8, 2) := by decide +kernel
theorem d_L_add_138 : decode prog_7_method_6_code 138 = .ok (.aload_n 0, 1) := by decide +kernel
theorem d_L_add_139 : decode prog_7_method_6_code 139 = .ok (.getfield 33, 3) := by decide +kernel
theorem d_L_add_142 : decode prog_7_method_6_code 142 = .ok (.iload 8, 2) := by decide +kernel
theorem d_L_add_144 : decode prog_7_method_6_code 144 = .ok (.iaload, 1) := by decide +kernel
theorem d_L_add_145 : decode prog_7_method_6_code 145 = .ok (.aload_n 0, 1) := by decide +kernel
theorem d_L_add_146 : decode prog_7_method_6_code 146 = .ok (.aload_n 0, 1) := by decide +kernel
theorem d_L_add_147 : decode prog_7_method_6_code 147 = .ok (.getfield 33, 3) := by decide +kernel
theorem d_L_add_150 : decode prog_7_method_6_code 150 = .ok (.iload 8, 2) := by decide +kernel
theorem d_L_add_152 : decode prog_7_method_6_code 152 = .ok (.iaload, 1) := by decide +kernel
theorem d_L_add_153 : decode prog_7_method_6_code 153 = .ok (.aload_n 0, 1) := by decide +kernel
theorem d_L_add_154 : decode prog_7_method_6_code 154 = .ok (.getfield 33, 3) := by decide +kernel
theorem d_L_add_157 : decode prog_7_method_6_code 157 = .ok (.invokevirtual 79, 3) := by decide +kernel
theorem d_L_add_160 : decode prog_7_method_6_code 160 = .ok (.iconst (-1), 1) := by decide +kernel
theorem d_L_add_161 : decode prog_7_method_6_code 161 = .ok (.ixor, 1) := by decide +kernel
theorem d_L_add_162 : decode prog_7_method_6_code 162 = .ok (.iand, 1) := by decide +kernel
theorem d_L_add_163 : decode prog_7_method_6_code 163 = .ok (.iastore, 1) := by decide +kernel
theorem d_L_add_164 : decode prog_7_method_6_code 164 = .ok (.aload_n 0, 1) := by decide +kernel
theorem d_L_add_165 : decode prog_7_method_6_code 165 = .ok (.getfield 42, 3) := by decide +kernel
theorem d_L_add_168 : decode prog_7_method_6_code 168 = .ok (.iload 8, 2) := by decide +kernel
theorem d_L_add_170 : decode prog_7_method_6_code 170 = .ok (.aload_n 0, 1) := by decide +kernel
theorem d_L_add_171 : decode prog_7_method_6_code 171 = .ok (.getfield 39, 3) := by decide +kernel
theorem d_L_add_174 : decode prog_7_method_6_code 174 = .ok (.iload 8, 2) := by decide +kernel
theorem d_L_add_176 : decode prog_7_method_6_code 176 = .ok (.iaload, 1) := by decide +kernel
theorem d_L_add_177 : decode prog_7_method_6_code 177 = .ok (.aload_n 0, 1) := by decide +kernel
theorem d_L_add_178 : decode prog_7_method_6_code 178 = .ok (.aload_n 0, 1) := by decide +kernel
theorem d_L_add_179 : decode prog_7_method_6_code 179 = .ok (.getfield 39, 3) := by decide +kernel
theorem d_L_add_182 : decode prog_7_method_6_code 182 = .ok (.iload 8, 2) := by decide +kernel
theorem d_L_add_184 : decode prog_7_method_6_code 184 = .ok (.iaload, 1) := by decide +kernel
theorem d_L_add_185 : decode prog_7_method_6_code 185 = .ok (.aload_n 0, 1) := by decide +kernel
theorem d_L_add_186 : decode prog_7_method_6_code 186 = .ok (.getfield 42, 3) := by decide +kernel
theorem d_L_add_189 : decode prog_7_method_6_code 189 = .ok (.invokevirtual 79, 3) := by decide +kernel
theorem d_L_add_192 : decode prog_7_method_6_code 192 = .ok (.ior, 1) := by decide +kernel
theorem d_L_add_193 : decode prog_7_method_6_code 193 = .ok (.iastore, 1) := by decide +kernel
theorem d_L_add_194 : decode prog_7_method_6_code 194 = .ok (.aload_n 0, 1) := by decide +kernel
theorem d_L_add_195 : decode prog_7_method_6_code 195 = .ok (.getfield 45, 3) := by decide +kernel
theorem d_L_add_198 : decode prog_7_method_6_code 198 = .ok (.iload 8, 2) := by decide +kernel
theorem d_L_add_200 : decode prog_7_method_6_code 200 = .ok (.iconst 1, 1) := by decide +kernel
theorem d_L_add_201 : decode prog_7_method_6_code 201 = .ok (.aload_n 0, 1) := by decide +kernel
theorem d_L_add_202 : decode prog_7_method_6_code 202 = .ok (.aload_n 0, 1) := by decide +kernel
theorem d_L_add_203 : decode prog_7_method_6_code 203 = .ok (.getfield 33, 3) := by decide +kernel
theorem d_L_add_206 : decode prog_7_method_6_code 206 = .ok (.iload 8, 2) := by decide +kernel
theorem d_L_add_208 : decode prog_7_method_6_code 208 = .ok (.iaload, 1) := by decide +kernel
theorem d_L_add_209 : decode prog_7_method_6_code 209 = .ok (.invokevirtual 86, 3) := by decide +kernel
theorem d_L_add_212 : decode prog_7_method_6_code 212 = .ok (.iadd, 1) := by decide +kernel
theorem d_L_add_213 : decode prog_7_method_6_code 213 = .ok (.iastore, 1) := by decide +kernel
theorem d_L_add_214 : decode prog_7_method_6_code 214 = .ok (.aload_n 0, 1) := by decide +kernel
theorem d_L_add_215 : decode prog_7_method_6_code 215 = .ok (.getfield 48, 3) := by decide +kernel
theorem d_L_add_218 : decode prog_7_method_6_code 218 = .ok (.iload_n 1, 1) := by decide +kernel
theorem d_L_add_219 : decode prog_7_method_6_code 219 = .ok (.dup2, 1) := by decide +kernel
theorem d_L_add_220 : decode prog_7_method_6_code 220 = .ok (.iaload, 1) := by decide +kernel
theorem d_L_add_221 : decode prog_7_method_6_code 221 = .ok (.iload 8, 2) := by decide +kernel
theorem d_L_add_223 : decode prog_7_method_6_code 223 = .ok (.invokestatic 72, 3) := by decide +kernel
theorem d_L_add_226 : decode prog_7_method_6_code 226 = .ok (.ior, 1) := by decide +kernel
theorem d_L_add_227 : decode prog_7_method_6_code 227 = .ok (.iastore, 1) := by decide +kernel
theorem d_L_add_228 : decode prog_7_method_6_code 228 = .ok (.iconst 0, 1) := by decide +kernel
theorem d_L_add_229 : decode prog_7_method_6_code 229 = .ok (.istore 9, 2) := by decide +kernel
theorem d_L_add_231 : decode prog_7_method_6_code 231 = .ok (.iload 9, 2) := by decide +kernel
theorem d_L_add_233 : decode prog_7_method_6_code 233 = .ok (.bipush 6, 2) := by decide +kernel
theorem d_L_add_235 : decode prog_7_method_6_code 235 = .ok (.if_icmp .ge 34, 3) := by decide +kernel
theorem d_L_add_238 : decode prog_7_method_6_code 238 = .ok (.iload 4, 2) := by decide +kernel
theorem d_L_add_240 : decode prog_7_method_6_code 240 = .ok (.iload 9, 2) := by decide +kernel
theorem d_L_add_242 : decode prog_7_method_6_code 242 = .ok (.invokestatic 68, 3) := by decide +kernel
theorem d_L_add_245 : decode prog_7_method_6_code 245 = .ok (.ifCond .eq 18, 3) := by decide +kernel
theorem d_L_add_263 : decode prog_7_method_6_code 263 = .ok (.iinc 9 1, 3) := by decide +kernel
theorem d_L_add_266 : decode prog_7_method_6_code 266 = .ok (.goto (-35), 3) := by decide +kernel
theorem d_L_add_248 : decode prog_7_method_6_code 248 = .ok (.aload_n 0, 1) := by decide +kernel
theorem d_L_add_249 : decode prog_7_method_6_code 249 = .ok (.getfield 51, 3) := by decide +kernel
theorem d_L_add_252 : decode prog_7_method_6_code 252 = .ok (.iload 9, 2) := by decide +kernel
theorem d_L_add_254 : decode prog_7_method_6_code 254 = .ok (.dup2, 1) := by decide +kernel
theorem d_L_add_255 : decode prog_7_method_6_code 255 = .ok (.iaload, 1) := by decide +kernel
theorem d_L_add_256 : decode prog_7_method_6_code 256 = .ok (.iload 8, 2) := by decide +kernel
theorem d_L_add_258 : decode prog_7_method_6_code 258 = .ok (.invokestatic 72, 3) := by decide +kernel
theorem d_L_add_261 : decode prog_7_method_6_code 261 = .ok (.ior, 1) := by decide +kernel
theorem d_L_add_262 : decode prog_7_method_6_code 262 = .ok (.iastore, 1) := by decide +kernel
theorem d_L_add_269 : decode prog_7_method_6_code 269 = .ok (.aload_n 0, 1) := by decide +kernel
theorem d_L_add_270 : decode prog_7_method_6_code 270 = .ok (.dup, 1) := by decide +kernel
theorem d_L_add_271 : decode prog_7_method_6_code 271 = .ok (.getfield 65, 3) := by decide +kernel
theorem d_L_add_274 : decode prog_7_method_6_code 274 = .ok (.iload 8, 2) := by decide +kernel
theorem d_L_add_276 : decode prog_7_method_6_code 276 = .ok (.invokestatic 72, 3) := by decide +kernel
theorem d_L_add_279 : decode prog_7_method_6_code 279 = .ok (.ior, 1) := by decide +kernel
theorem d_L_add_280 : decode prog_7_method_6_code 280 = .ok (.putfield 65, 3) := by decide +kernel
theorem d_L_add_283 : decode prog_7_method_6_code 283 = .ok (.aload_n 0, 1) := by decide +kernel
theorem d_L_add_284 : decode prog_7_method_6_code 284 = .ok (.dup, 1) := by decide +kernel
theorem d_L_add_285 : decode prog_7_method_6_code 285 = .ok (.getfield 57, 3) := by decide +kernel
theorem d_L_add_288 : decode prog_7_method_6_code 288 = .ok (.iconst 1, 1) := by decide +kernel
theorem d_L_add_289 : decode prog_7_method_6_code 289 = .ok (.iadd, 1) := by decide +kernel
theorem d_L_add_290 : decode prog_7_method_6_code 290 = .ok (.putfield 57, 3) := by decide +kernel
theorem d_L_add_293 : decode prog_7_method_6_code 293 = .ok (.iload 8, 2) := by decide +kernel
theorem d_L_add_295 : decode prog_7_method_6_code 295 = .ok (.ireturn, 1) := by decide +kernel
theorem d_JI_bitCount_0 : decode prog_21_method_49_code 0 = .ok (.iload_n 0, 1) := by decide +kernel
theorem d_JI_bitCount_1 : decode prog_21_method_49_code 1 = .ok (.iload_n 0, 1) := by decide +kernel
theorem d_JI_bitCount_2 : decode prog_21_method_49_code 2 = .ok (.iconst 1, 1) := by decide +kernel
theorem d_JI_bitCount_3 : decode prog_21_method_49_code 3 = .ok (.iushr, 1) := by decide +kernel
theorem d_JI_bitCount_4 : decode prog_21_method_49_code 4 = .ok (.ldc_w 265, 3) := by decide +kernel
theorem d_JI_bitCount_7 : decode prog_21_method_49_code 7 = .ok (.iand, 1) := by decide +kernel
theorem d_JI_bitCount_8 : decode prog_21_method_49_code 8 = .ok (.isub, 1) := by decide +kernel
theorem d_JI_bitCount_9 : decode prog_21_method_49_code 9 = .ok (.istore_n 0, 1) := by decide +kernel
theorem d_JI_bitCount_10 : decode prog_21_method_49_code 10 = .ok (.iload_n 0, 1) := by decide +kernel
theorem d_JI_bitCount_11 : decode prog_21_method_49_code 11 = .ok (.ldc_w 266, 3) := by decide +kernel
theorem d_JI_bitCount_14 : decode prog_21_method_49_code 14 = .ok (.iand, 1) := by decide +kernel
theorem d_JI_bitCount_15 : decode prog_21_method_49_code 15 = .ok (.iload_n 0, 1) := by decide +kernel
theorem d_JI_bitCount_16 : decode prog_21_method_49_code 16 = .ok (.iconst 2, 1) := by decide +kernel
theorem d_JI_bitCount_17 : decode prog_21_method_49_code 17 = .ok (.iushr, 1) := by decide +kernel
theorem d_JI_bitCount_18 : decode prog_21_method_49_code 18 = .ok (.ldc_w 266, 3) := by decide +kernel
theorem d_JI_bitCount_21 : decode prog_21_method_49_code 21 = .ok (.iand, 1) := by decide +kernel
theorem d_JI_bitCount_22 : decode prog_21_method_49_code 22 = .ok (.iadd, 1) := by decide +kernel
theorem d_JI_bitCount_23 : decode prog_21_method_49_code 23 = .ok (.istore_n 0, 1) := by decide +kernel
theorem d_JI_bitCount_24 : decode prog_21_method_49_code 24 = .ok (.iload_n 0, 1) := by decide +kernel
theorem d_JI_bitCount_25 : decode prog_21_method_49_code 25 = .ok (.iload_n 0, 1) := by decide +kernel
theorem d_JI_bitCount_26 : decode prog_21_method_49_code 26 = .ok (.iconst 4, 1) := by decide +kernel
theorem d_JI_bitCount_27 : decode prog_21_method_49_code 27 = .ok (.iushr, 1) := by decide +kernel
theorem d_JI_bitCount_28 : decode prog_21_method_49_code 28 = .ok (.iadd, 1) := by decide +kernel
theorem d_JI_bitCount_29 : decode prog_21_method_49_code 29 = .ok (.ldc_w 267, 3) := by decide +kernel
theorem d_JI_bitCount_32 : decode prog_21_method_49_code 32 = .ok (.iand, 1) := by decide +kernel
theorem d_JI_bitCount_33 : decode prog_21_method_49_code 33 = .ok (.istore_n 0, 1) := by decide +kernel
theorem d_JI_bitCount_34 : decode prog_21_method_49_code 34 = .ok (.iload_n 0, 1) := by decide +kernel
theorem d_JI_bitCount_35 : decode prog_21_method_49_code 35 = .ok (.iload_n 0, 1) := by decide +kernel
theorem d_JI_bitCount_36 : decode prog_21_method_49_code 36 = .ok (.bipush 8, 2) := by decide +kernel
theorem d_JI_bitCount_38 : decode prog_21_method_49_code 38 = .ok (.iushr, 1) := by decide +kernel
theorem d_JI_bitCount_39 : decode prog_21_method_49_code 39 = .ok (.iadd, 1) := by decide +kernel
theorem d_JI_bitCount_40 : decode prog_21_method_49_code 40 = .ok (.istore_n 0, 1) := by decide +kernel
theorem d_JI_bitCount_41 : decode prog_21_method_49_code 41 = .ok (.iload_n 0, 1) := by decide +kernel
theorem d_JI_bitCount_42 : decode prog_21_method_49_code 42 = .ok (.iload_n 0, 1) := by decide +kernel
theorem d_JI_bitCount_43 : decode prog_21_method_49_code 43 = .ok (.bipush 16, 2) := by decide +kernel
theorem d_JI_bitCount_45 : decode prog_21_method_49_code 45 = .ok (.iushr, 1) := by decide +kernel
theorem d_JI_bitCount_46 : decode prog_21_method_49_code 46 = .ok (.iadd, 1) := by decide +kernel
theorem d_JI_bitCount_47 : decode prog_21_method_49_code 47 = .ok (.istore_n 0, 1) := by decide +kernel
theorem d_JI_bitCount_48 : decode prog_21_method_49_code 48 = .ok (.iload_n 0, 1) := by decide +kernel
theorem d_JI_bitCount_49 : decode prog_21_method_49_code 49 = .ok (.bipush 63, 2) := by decide +kernel
theorem d_JI_bitCount_51 : decode prog_21_method_49_code 51 = .ok (.iand, 1) := by decide +kernel
theorem d_JI_bitCount_52 : decode prog_21_method_49_code 52 = .ok (.ireturn, 1) := by decide +kernel
theorem d_L_isLetter_0 : decode prog_7_method_2_code 0 = .ok (.iload_n 1, 1) := by decide +kernel
theorem d_L_isLetter_1 : decode prog_7_method_2_code 1 = .ok (.ifCond .lt 15, 3) := by decide +kernel
theorem d_L_isLetter_16 : decode prog_7_method_2_code 16 = .ok (.iconst 0, 1) := by decide +kernel
theorem d_L_isLetter_17 : decode prog_7_method_2_code 17 = .ok (.ireturn, 1) := by decide +kernel
theorem d_L_isLetter_4 : decode prog_7_method_2_code 4 = .ok (.iload_n 1, 1) := by decide +kernel
theorem d_L_isLetter_5 : decode prog_7_method_2_code 5 = .ok (.aload_n 0, 1) := by decide +kernel
theorem d_L_isLetter_6 : decode prog_7_method_2_code 6 = .ok (.getfield 57, 3) := by decide +kernel
theorem d_L_isLetter_9 : decode prog_7_method_2_code 9 = .ok (.if_icmp .ge 7, 3) := by decide +kernel
theorem d_L_isLetter_12 : decode prog_7_method_2_code 12 = .ok (.iconst 1, 1) := by decide +kernel
theorem d_L_isLetter_13 : decode prog_7_method_2_code 13 = .ok (.goto 4, 3) := by decide +kernel
theorem d_C_truth_0 : decode prog_1_method_46_code 0 = .ok (.iload_n 0, 1) := by decide +kernel
theorem d_C_truth_1 : decode prog_1_method_46_code 1 = .ok (.ifCond .eq 7, 3) := by decide +kernel
theorem d_C_truth_8 : decode prog_1_method_46_code 8 = .ok (.iconst 0, 1) := by decide +kernel
theorem d_C_truth_9 : decode prog_1_method_46_code 9 = .ok (.ireturn, 1) := by decide +kernel
theorem d_C_truth_4 : decode prog_1_method_46_code 4 = .ok (.iconst 1, 1) := by decide +kernel
theorem d_C_truth_5 : decode prog_1_method_46_code 5 = .ok (.goto 4, 3) := by decide +kernel
theorem d_L_areTwo_0 : decode prog_7_method_3_code 0 = .ok (.aload_n 0, 1) := by decide +kernel
theorem d_L_areTwo_1 : decode prog_7_method_3_code 1 = .ok (.iload_n 1, 1) := by decide +kernel
theorem d_L_areTwo_2 : decode prog_7_method_3_code 2 = .ok (.invokevirtual 61, 3) := by decide +kernel
theorem d_L_areTwo_5 : decode prog_7_method_3_code 5 = .ok (.ifCond .eq 20, 3) := by decide +kernel
theorem d_L_areTwo_25 : decode prog_7_method_3_code 25 = .ok (.iconst 0, 1) := by decide +kernel
theorem d_L_areTwo_26 : decode prog_7_method_3_code 26 = .ok (.ireturn, 1) := by decide +kernel
theorem d_L_areTwo_8 : decode prog_7_method_3_code 8 = .ok (.aload_n 0, 1) := by decide +kernel
theorem d_L_areTwo_9 : decode prog_7_method_3_code 9 = .ok (.iload_n 2, 1) := by decide +kernel
theorem d_L_areTwo_10 : decode prog_7_method_3_code 10 = .ok (.invokevirtual 61, 3) := by decide +kernel
theorem d_L_areTwo_13 : decode prog_7_method_3_code 13 = .ok (.ifCond .eq 12, 3) := by decide +kernel
theorem d_L_areTwo_16 : decode prog_7_method_3_code 16 = .ok (.iload_n 1, 1) := by decide +kernel
theorem d_L_areTwo_17 : decode prog_7_method_3_code 17 = .ok (.iload_n 2, 1) := by decide +kernel
theorem d_L_areTwo_18 : decode prog_7_method_3_code 18 = .ok (.if_icmp .eq 7, 3) := by decide +kernel
theorem d_L_areTwo_21 : decode prog_7_method_3_code 21 = .ok (.iconst 1, 1) := by decide +kernel
theorem d_L_areTwo_22 : decode prog_7_method_3_code 22 = .ok (.goto 4, 3) := by decide +kernel
theorem d_L_firstThatKnew_0 : decode prog_7_method_16_code 0 = .ok (.iconst 0, 1) := by decide +kernel
theorem d_L_firstThatKnew_1 : decode prog_7_method_16_code 1 = .ok (.istore_n 3, 1) := by decide +kernel
theorem d_L_firstThatKnew_2 : decode prog_7_method_16_code 2 = .ok (.iload_n 3, 1) := by decide +kernel
theorem d_L_firstThatKnew_3 : decode prog_7_method_16_code 3 = .ok (.aload_n 0, 1) := by decide +kernel
theorem d_L_firstThatKnew_4 : decode prog_7_method_16_code 4 = .ok (.getfield 57, 3) := by decide +kernel
theorem d_L_firstThatKnew_7 : decode prog_7_method_16_code 7 = .ok (.if_icmp .ge 32, 3) := by decide +kernel
theorem d_L_firstThatKnew_10 : decode prog_7_method_16_code 10 = .ok (.iload_n 2, 1) := by decide +kernel
theorem d_L_firstThatKnew_11 : decode prog_7_method_16_code 11 = .ok (.iload_n 3, 1) := by decide +kernel
theorem d_L_firstThatKnew_12 : decode prog_7_method_16_code 12 = .ok (.invokestatic 68, 3) := by decide +kernel
theorem d_L_firstThatKnew_15 : decode prog_7_method_16_code 15 = .ok (.ifCond .eq 18, 3) := by decide +kernel
theorem d_L_firstThatKnew_33 : decode prog_7_method_16_code 33 = .ok (.iinc 3 1, 3) := by decide +kernel
theorem d_L_firstThatKnew_36 : decode prog_7_method_16_code 36 = .ok (.goto (-34), 3) := by decide +kernel
theorem d_L_firstThatKnew_18 : decode prog_7_method_16_code 18 = .ok (.aload_n 0, 1) := by decide +kernel
theorem d_L_firstThatKnew_19 : decode prog_7_method_16_code 19 = .ok (.getfield 30, 3) := by decide +kernel
theorem d_L_firstThatKnew_22 : decode prog_7_method_16_code 22 = .ok (.iload_n 3, 1) := by decide +kernel
theorem d_L_firstThatKnew_23 : decode prog_7_method_16_code 23 = .ok (.iaload, 1) := by decide +kernel
theorem d_L_firstThatKnew_24 : decode prog_7_method_16_code 24 = .ok (.iload_n 1, 1) := by decide +kernel
theorem d_L_firstThatKnew_25 : decode prog_7_method_16_code 25 = .ok (.invokestatic 68, 3) := by decide +kernel
theorem d_L_firstThatKnew_28 : decode prog_7_method_16_code 28 = .ok (.ifCond .eq 5, 3) := by decide +kernel
theorem d_L_firstThatKnew_31 : decode prog_7_method_16_code 31 = .ok (.iload_n 3, 1) := by decide +kernel
theorem d_L_firstThatKnew_32 : decode prog_7_method_16_code 32 = .ok (.ireturn, 1) := by decide +kernel
theorem d_L_firstThatKnew_39 : decode prog_7_method_16_code 39 = .ok (.iconst (-1), 1) := by decide +kernel
theorem d_L_firstThatKnew_40 : decode prog_7_method_16_code 40 = .ok (.ireturn, 1) := by decide +kernel
theorem d_L_ringsRound_0 : decode prog_7_method_15_code 0 = .ok (.iload_n 1, 1) := by decide +kernel
theorem d_L_ringsRound_1 : decode prog_7_method_15_code 1 = .ok (.invokestatic 72, 3) := by decide +kernel
theorem d_L_ringsRound_4 : decode prog_7_method_15_code 4 = .ok (.istore_n 3, 1) := by decide +kernel
theorem d_L_ringsRound_5 : decode prog_7_method_15_code 5 = .ok (.aload_n 0, 1) := by decide +kernel
theorem d_L_ringsRound_6 : decode prog_7_method_15_code 6 = .ok (.getfield 54, 3) := by decide +kernel
theorem d_L_ringsRound_9 : decode prog_7_method_15_code 9 = .ok (.iconst 0, 1) := by decide +kernel
theorem d_L_ringsRound_10 : decode prog_7_method_15_code 10 = .ok (.iload_n 3, 1) := by decide +kernel
theorem d_L_ringsRound_11 : decode prog_7_method_15_code 11 = .ok (.iastore, 1) := by decide +kernel
theorem d_L_ringsRound_12 : decode prog_7_method_15_code 12 = .ok (.iconst 1, 1) := by decide +kernel
theorem d_L_ringsRound_13 : decode prog_7_method_15_code 13 = .ok (.istore 4, 2) := by decide +kernel
theorem d_L_ringsRound_15 : decode prog_7_method_15_code 15 = .ok (.iload 4, 2) := by decide +kernel
theorem d_L_ringsRound_17 : decode prog_7_method_15_code 17 = .ok (.bipush 30, 2) := by decide +kernel
theorem d_L_ringsRound_19 : decode prog_7_method_15_code 19 = .ok (.if_icmp .ge 64, 3) := by decide +kernel
theorem d_L_ringsRound_22 : decode prog_7_method_15_code 22 = .ok (.aload_n 0, 1) := by decide +kernel
theorem d_L_ringsRound_23 : decode prog_7_method_15_code 23 = .ok (.getfield 54, 3) := by decide +kernel
theorem d_L_ringsRound_26 : decode prog_7_method_15_code 26 = .ok (.iload 4, 2) := by decide +kernel
theorem d_L_ringsRound_28 : decode prog_7_method_15_code 28 = .ok (.aload_n 0, 1) := by decide +kernel
theorem d_L_ringsRound_29 : decode prog_7_method_15_code 29 = .ok (.aload_n 0, 1) := by decide +kernel
theorem d_L_ringsRound_30 : decode prog_7_method_15_code 30 = .ok (.getfield 54, 3) := by decide +kernel
theorem d_L_ringsRound_33 : decode prog_7_method_15_code 33 = .ok (.iload 4, 2) := by decide +kernel
theorem d_L_ringsRound_35 : decode prog_7_method_15_code 35 = .ok (.iconst 1, 1) := by decide +kernel
theorem d_L_ringsRound_36 : decode prog_7_method_15_code 36 = .ok (.isub, 1) := by decide +kernel
theorem d_L_ringsRound_37 : decode prog_7_method_15_code 37 = .ok (.iaload, 1) := by decide +kernel
theorem d_L_ringsRound_38 : decode prog_7_method_15_code 38 = .ok (.aload_n 0, 1) := by decide +kernel
theorem d_L_ringsRound_39 : decode prog_7_method_15_code 39 = .ok (.getfield 30, 3) := by decide +kernel
theorem d_L_ringsRound_42 : decode prog_7_method_15_code 42 = .ok (.invokevirtual 79, 3) := by decide +kernel
theorem d_L_ringsRound_45 : decode prog_7_method_15_code 45 = .ok (.iload_n 3, 1) := by decide +kernel
theorem d_L_ringsRound_46 : decode prog_7_method_15_code 46 = .ok (.iconst (-1), 1) := by decide +kernel
theorem d_L_ringsRound_47 : decode prog_7_method_15_code 47 = .ok (.ixor, 1) := by decide +kernel
theorem d_L_ringsRound_48 : decode prog_7_method_15_code 48 = .ok (.iand, 1) := by decide +kernel
theorem d_L_ringsRound_49 : decode prog_7_method_15_code 49 = .ok (.iastore, 1) := by decide +kernel
theorem d_L_ringsRound_50 : decode prog_7_method_15_code 50 = .ok (.iload_n 3, 1) := by decide +kernel
theorem d_L_ringsRound_51 : decode prog_7_method_15_code 51 = .ok (.aload_n 0, 1) := by decide +kernel
theorem d_L_ringsRound_52 : decode prog_7_method_15_code 52 = .ok (.getfield 54, 3) := by decide +kernel
theorem d_L_ringsRound_55 : decode prog_7_method_15_code 55 = .ok (.iload 4, 2) := by decide +kernel
theorem d_L_ringsRound_57 : decode prog_7_method_15_code 57 = .ok (.iaload, 1) := by decide +kernel
theorem d_L_ringsRound_58 : decode prog_7_method_15_code 58 = .ok (.ior, 1) := by decide +kernel
theorem d_L_ringsRound_59 : decode prog_7_method_15_code 59 = .ok (.istore_n 3, 1) := by decide +kernel
theorem d_L_ringsRound_60 : decode prog_7_method_15_code 60 = .ok (.aload_n 0, 1) := by decide +kernel
theorem d_L_ringsRound_61 : decode prog_7_method_15_code 61 = .ok (.getfield 54, 3) := by decide +kernel
theorem d_L_ringsRound_64 : decode prog_7_method_15_code 64 = .ok (.iload 4, 2) := by decide +kernel
theorem d_L_ringsRound_66 : decode prog_7_method_15_code 66 = .ok (.iaload, 1) := by decide +kernel
theorem d_L_ringsRound_67 : decode prog_7_method_15_code 67 = .ok (.iload_n 2, 1) := by decide +kernel
theorem d_L_ringsRound_68 : decode prog_7_method_15_code 68 = .ok (.invokestatic 68, 3) := by decide +kernel
theorem d_L_ringsRound_71 : decode prog_7_method_15_code 71 = .ok (.ifCond .eq 6, 3) := by decide +kernel
theorem d_L_ringsRound_77 : decode prog_7_method_15_code 77 = .ok (.iinc 4 1, 3) := by decide +kernel
theorem d_L_ringsRound_80 : decode prog_7_method_15_code 80 = .ok (.goto (-65), 3) := by decide +kernel
theorem d_L_ringsRound_74 : decode prog_7_method_15_code 74 = .ok (.iload 4, 2) := by decide +kernel
theorem d_L_ringsRound_76 : decode prog_7_method_15_code 76 = .ok (.ireturn, 1) := by decide +kernel
theorem d_L_ringsRound_83 : decode prog_7_method_15_code 83 = .ok (.iconst (-1), 1) := by decide +kernel
theorem d_L_ringsRound_84 : decode prog_7_method_15_code 84 = .ok (.ireturn, 1) := by decide +kernel
theorem d_L_onShortestWay_0 : decode prog_7_method_14_code 0 = .ok (.aload_n 0, 1) := by decide +kernel
theorem d_L_onShortestWay_1 : decode prog_7_method_14_code 1 = .ok (.iload_n 2, 1) := by decide +kernel
theorem d_L_onShortestWay_2 : decode prog_7_method_14_code 2 = .ok (.iload_n 1, 1) := by decide +kernel
theorem d_L_onShortestWay_3 : decode prog_7_method_14_code 3 = .ok (.invokevirtual 107, 3) := by decide +kernel
theorem d_L_onShortestWay_6 : decode prog_7_method_14_code 6 = .ok (.istore 4, 2) := by decide +kernel
theorem d_L_onShortestWay_8 : decode prog_7_method_14_code 8 = .ok (.iload 4, 2) := by decide +kernel
theorem d_L_onShortestWay_10 : decode prog_7_method_14_code 10 = .ok (.iconst (-1), 1) := by decide +kernel
theorem d_L_onShortestWay_11 : decode prog_7_method_14_code 11 = .ok (.if_icmp .eq 9, 3) := by decide +kernel
theorem d_L_onShortestWay_20 : decode prog_7_method_14_code 20 = .ok (.iconst (-1), 1) := by decide +kernel
theorem d_L_onShortestWay_21 : decode prog_7_method_14_code 21 = .ok (.ireturn, 1) := by decide +kernel
theorem d_L_onShortestWay_14 : decode prog_7_method_14_code 14 = .ok (.iload_n 3, 1) := by decide +kernel
theorem d_L_onShortestWay_15 : decode prog_7_method_14_code 15 = .ok (.iload 4, 2) := by decide +kernel
theorem d_L_onShortestWay_17 : decode prog_7_method_14_code 17 = .ok (.if_icmp .le 5, 3) := by decide +kernel
theorem d_L_onShortestWay_22 : decode prog_7_method_14_code 22 = .ok (.iload_n 1, 1) := by decide +kernel
theorem d_L_onShortestWay_23 : decode prog_7_method_14_code 23 = .ok (.istore 5, 2) := by decide +kernel
theorem d_L_onShortestWay_25 : decode prog_7_method_14_code 25 = .ok (.iconst 1, 1) := by decide +kernel
theorem d_L_onShortestWay_26 : decode prog_7_method_14_code 26 = .ok (.istore 6, 2) := by decide +kernel
theorem d_L_onShortestWay_28 : decode prog_7_method_14_code 28 = .ok (.iload 6, 2) := by decide +kernel
theorem d_L_onShortestWay_30 : decode prog_7_method_14_code 30 = .ok (.iload_n 3, 1) := by decide +kernel
theorem d_L_onShortestWay_31 : decode prog_7_method_14_code 31 = .ok (.if_icmp .gt 33, 3) := by decide +kernel
theorem d_L_onShortestWay_34 : decode prog_7_method_14_code 34 = .ok (.iload 5, 2) := by decide +kernel
theorem d_L_onShortestWay_36 : decode prog_7_method_14_code 36 = .ok (.iconst (-1), 1) := by decide +kernel
theorem d_L_onShortestWay_37 : decode prog_7_method_14_code 37 = .ok (.if_icmp .eq 27, 3) := by decide +kernel
theorem d_L_onShortestWay_40 : decode prog_7_method_14_code 40 = .ok (.aload_n 0, 1) := by decide +kernel
theorem d_L_onShortestWay_41 : decode prog_7_method_14_code 41 = .ok (.iload 5, 2) := by decide +kernel
theorem d_L_onShortestWay_43 : decode prog_7_method_14_code 43 = .ok (.aload_n 0, 1) := by decide +kernel
theorem d_L_onShortestWay_44 : decode prog_7_method_14_code 44 = .ok (.getfield 54, 3) := by decide +kernel
theorem d_L_onShortestWay_47 : decode prog_7_method_14_code 47 = .ok (.iload 4, 2) := by decide +kernel
theorem d_L_onShortestWay_49 : decode prog_7_method_14_code 49 = .ok (.iload 6, 2) := by decide +kernel
theorem d_L_onShortestWay_51 : decode prog_7_method_14_code 51 = .ok (.isub, 1) := by decide +kernel
theorem d_L_onShortestWay_52 : decode prog_7_method_14_code 52 = .ok (.iaload, 1) := by decide +kernel
theorem d_L_onShortestWay_53 : decode prog_7_method_14_code 53 = .ok (.invokevirtual 110, 3) := by decide +kernel
theorem d_L_onShortestWay_56 : decode prog_7_method_14_code 56 = .ok (.istore 5, 2) := by decide +kernel
theorem d_L_onShortestWay_58 : decode prog_7_method_14_code 58 = .ok (.iinc 6 1, 3) := by decide +kernel
theorem d_L_onShortestWay_61 : decode prog_7_method_14_code 61 = .ok (.goto (-33), 3) := by decide +kernel
theorem d_L_onShortestWay_64 : decode prog_7_method_14_code 64 = .ok (.iload 5, 2) := by decide +kernel
theorem d_L_onShortestWay_66 : decode prog_7_method_14_code 66 = .ok (.ireturn, 1) := by decide +kernel
theorem d_L_numberFor_0 : decode prog_7_method_10_code 0 = .ok (.aload_n 0, 1) := by decide +kernel
theorem d_L_numberFor_1 : decode prog_7_method_10_code 1 = .ok (.getfield 33, 3) := by decide +kernel
theorem d_L_numberFor_4 : decode prog_7_method_10_code 4 = .ok (.iload_n 1, 1) := by decide +kernel
theorem d_L_numberFor_5 : decode prog_7_method_10_code 5 = .ok (.iaload, 1) := by decide +kernel
theorem d_L_numberFor_6 : decode prog_7_method_10_code 6 = .ok (.iload_n 1, 1) := by decide +kernel
theorem d_L_numberFor_7 : decode prog_7_method_10_code 7 = .ok (.invokestatic 72, 3) := by decide +kernel
theorem d_L_numberFor_10 : decode prog_7_method_10_code 10 = .ok (.ior, 1) := by decide +kernel
theorem d_L_numberFor_11 : decode prog_7_method_10_code 11 = .ok (.aload_n 0, 1) := by decide +kernel
theorem d_L_numberFor_12 : decode prog_7_method_10_code 12 = .ok (.getfield 48, 3) := by decide +kernel
theorem d_L_numberFor_15 : decode prog_7_method_10_code 15 = .ok (.iload_n 2, 1) := by decide +kernel
theorem d_L_numberFor_16 : decode prog_7_method_10_code 16 = .ok (.iaload, 1) := by decide +kernel
theorem d_L_numberFor_17 : decode prog_7_method_10_code 17 = .ok (.iand, 1) := by decide +kernel
theorem d_L_numberFor_18 : decode prog_7_method_10_code 18 = .ok (.invokestatic 95, 3) := by decide +kernel
theorem d_L_numberFor_21 : decode prog_7_method_10_code 21 = .ok (.ireturn, 1) := by decide +kernel
theorem d_L_numberOfNumber_0 : decode prog_7_method_11_code 0 = .ok (.iconst 0, 1) := by decide +kernel
theorem d_L_numberOfNumber_1 : decode prog_7_method_11_code 1 = .ok (.istore 4, 2) := by decide +kernel
theorem d_L_numberOfNumber_3 : decode prog_7_method_11_code 3 = .ok (.aload_n 0, 1) := by decide +kernel
theorem d_L_numberOfNumber_4 : decode prog_7_method_11_code 4 = .ok (.getfield 33, 3) := by decide +kernel
theorem d_L_numberOfNumber_7 : decode prog_7_method_11_code 7 = .ok (.iload_n 1, 1) := by decide +kernel
theorem d_L_numberOfNumber_8 : decode prog_7_method_11_code 8 = .ok (.iaload, 1) := by decide +kernel
theorem d_L_numberOfNumber_9 : decode prog_7_method_11_code 9 = .ok (.iload_n 1, 1) := by decide +kernel
theorem d_L_numberOfNumber_10 : decode prog_7_method_11_code 10 = .ok (.invokestatic 72, 3) := by decide +kernel
theorem d_L_numberOfNumber_13 : decode prog_7_method_11_code 13 = .ok (.ior, 1) := by decide +kernel
theorem d_L_numberOfNumber_14 : decode prog_7_method_11_code 14 = .ok (.aload_n 0, 1) := by decide +kernel
theorem d_L_numberOfNumber_15 : decode prog_7_method_11_code 15 = .ok (.getfield 48, 3) := by decide +kernel
theorem d_L_numberOfNumber_18 : decode prog_7_method_11_code 18 = .ok (.iload_n 3, 1) := by decide +kernel
theorem d_L_numberOfNumber_19 : decode prog_7_method_11_code 19 = .ok (.iaload, 1) := by decide +kernel
theorem d_L_numberOfNumber_20 : decode prog_7_method_11_code 20 = .ok (.iand, 1) := by decide +kernel
theorem d_L_numberOfNumber_21 : decode prog_7_method_11_code 21 = .ok (.istore 5, 2) := by decide +kernel
theorem d_L_numberOfNumber_23 : decode prog_7_method_11_code 23 = .ok (.iconst 0, 1) := by decide +kernel
theorem d_L_numberOfNumber_24 : decode prog_7_method_11_code 24 = .ok (.istore 6, 2) := by decide +kernel
theorem d_L_numberOfNumber_26 : decode prog_7_method_11_code 26 = .ok (.iload 6, 2) := by decide +kernel
theorem d_L_numberOfNumber_28 : decode prog_7_method_11_code 28 = .ok (.iload_n 1, 1) := by decide +kernel
theorem d_L_numberOfNumber_29 : decode prog_7_method_11_code 29 = .ok (.if_icmp .gt 33, 3) := by decide +kernel
theorem d_L_numberOfNumber_32 : decode prog_7_method_11_code 32 = .ok (.iload 5, 2) := by decide +kernel
theorem d_L_numberOfNumber_34 : decode prog_7_method_11_code 34 = .ok (.iload 6, 2) := by decide +kernel
theorem d_L_numberOfNumber_36 : decode prog_7_method_11_code 36 = .ok (.invokestatic 68, 3) := by decide +kernel
theorem d_L_numberOfNumber_39 : decode prog_7_method_11_code 39 = .ok (.ifCond .eq 17, 3) := by decide +kernel
theorem d_L_numberOfNumber_56 : decode prog_7_method_11_code 56 = .ok (.iinc 6 1, 3) := by decide +kernel
theorem d_L_numberOfNumber_59 : decode prog_7_method_11_code 59 = .ok (.goto (-33), 3) := by decide +kernel
theorem d_L_numberOfNumber_42 : decode prog_7_method_11_code 42 = .ok (.iload 4, 2) := by decide +kernel
theorem d_L_numberOfNumber_44 : decode prog_7_method_11_code 44 = .ok (.aload_n 0, 1) := by decide +kernel
theorem d_L_numberOfNumber_45 : decode prog_7_method_11_code 45 = .ok (.iload 6, 2) := by decide +kernel
theorem d_L_numberOfNumber_47 : decode prog_7_method_11_code 47 = .ok (.iload_n 2, 1) := by decide +kernel
theorem d_L_numberOfNumber_48 : decode prog_7_method_11_code 48 = .ok (.invokevirtual 100, 3) := by decide +kernel
theorem d_L_numberOfNumber_51 : decode prog_7_method_11_code 51 = .ok (.invokestatic 89, 3) := by decide +kernel
theorem d_L_numberOfNumber_54 : decode prog_7_method_11_code 54 = .ok (.istore 4, 2) := by decide +kernel
theorem d_L_numberOfNumber_62 : decode prog_7_method_11_code 62 = .ok (.iload 4, 2) := by decide +kernel
theorem d_L_numberOfNumber_64 : decode prog_7_method_11_code 64 = .ok (.ireturn, 1) := by decide +kernel
theorem d_C_isBearing_0 : decode prog_1_method_43_code 0 = .ok (.iload_n 0, 1) := by decide +kernel
theorem d_C_isBearing_1 : decode prog_1_method_43_code 1 = .ok (.ifCond .lt 12, 3) := by decide +kernel
theorem d_C_isBearing_13 : decode prog_1_method_43_code 13 = .ok (.iconst 0, 1) := by decide +kernel
theorem d_C_isBearing_14 : decode prog_1_method_43_code 14 = .ok (.ireturn, 1) := by decide +kernel
theorem d_C_isBearing_4 : decode prog_1_method_43_code 4 = .ok (.iload_n 0, 1) := by decide +kernel
theorem d_C_isBearing_5 : decode prog_1_method_43_code 5 = .ok (.iconst 3, 1) := by decide +kernel
theorem d_C_isBearing_6 : decode prog_1_method_43_code 6 = .ok (.if_icmp .gt 7, 3) := by decide +kernel
theorem d_C_isBearing_9 : decode prog_1_method_43_code 9 = .ok (.iconst 1, 1) := by decide +kernel
theorem d_C_isBearing_10 : decode prog_1_method_43_code 10 = .ok (.goto 4, 3) := by decide +kernel
theorem d_L_isTold_0 : decode prog_7_method_12_code 0 = .ok (.iload_n 3, 1) := by decide +kernel
theorem d_L_isTold_1 : decode prog_7_method_12_code 1 = .ok (.tableswitch 90 0 2 #[27, 38, 59], 27) := by decide +kernel
theorem d_L_isTold_91 : decode prog_7_method_12_code 91 = .ok (.aload_n 0, 1) := by decide +kernel
theorem d_L_isTold_92 : decode prog_7_method_12_code 92 = .ok (.getfield 42, 3) := by decide +kernel
theorem d_L_isTold_95 : decode prog_7_method_12_code 95 = .ok (.iload_n 2, 1) := by decide +kernel
theorem d_L_isTold_96 : decode prog_7_method_12_code 96 = .ok (.iaload, 1) := by decide +kernel
theorem d_L_isTold_97 : decode prog_7_method_12_code 97 = .ok (.iload_n 1, 1) := by decide +kernel
theorem d_L_isTold_98 : decode prog_7_method_12_code 98 = .ok (.invokestatic 68, 3) := by decide +kernel
theorem d_L_isTold_101 : decode prog_7_method_12_code 101 = .ok (.ireturn, 1) := by decide +kernel
theorem d_L_isTold_60 : decode prog_7_method_12_code 60 = .ok (.aload_n 0, 1) := by decide +kernel
theorem d_L_isTold_61 : decode prog_7_method_12_code 61 = .ok (.iload_n 2, 1) := by decide +kernel
theorem d_L_isTold_62 : decode prog_7_method_12_code 62 = .ok (.aload_n 0, 1) := by decide +kernel
theorem d_L_isTold_63 : decode prog_7_method_12_code 63 = .ok (.getfield 9, 3) := by decide +kernel
theorem d_L_isTold_66 : decode prog_7_method_12_code 66 = .ok (.iload_n 1, 1) := by decide +kernel
theorem d_L_isTold_67 : decode prog_7_method_12_code 67 = .ok (.iaload, 1) := by decide +kernel
theorem d_L_isTold_68 : decode prog_7_method_12_code 68 = .ok (.invokevirtual 100, 3) := by decide +kernel
theorem d_L_isTold_71 : decode prog_7_method_12_code 71 = .ok (.aload_n 0, 1) := by decide +kernel
theorem d_L_isTold_72 : decode prog_7_method_12_code 72 = .ok (.iload_n 1, 1) := by decide +kernel
theorem d_L_isTold_73 : decode prog_7_method_12_code 73 = .ok (.aload_n 0, 1) := by decide +kernel
theorem d_L_isTold_74 : decode prog_7_method_12_code 74 = .ok (.getfield 9, 3) := by decide +kernel
theorem d_L_isTold_77 : decode prog_7_method_12_code 77 = .ok (.iload_n 1, 1) := by decide +kernel
theorem d_L_isTold_78 : decode prog_7_method_12_code 78 = .ok (.iaload, 1) := by decide +kernel
theorem d_L_isTold_79 : decode prog_7_method_12_code 79 = .ok (.invokevirtual 100, 3) := by decide +kernel
theorem d_L_isTold_82 : decode prog_7_method_12_code 82 = .ok (.if_icmp .lt 7, 3) := by decide +kernel
theorem d_L_isTold_89 : decode prog_7_method_12_code 89 = .ok (.iconst 0, 1) := by decide +kernel
theorem d_L_isTold_90 : decode prog_7_method_12_code 90 = .ok (.ireturn, 1) := by decide +kernel
theorem d_L_isTold_85 : decode prog_7_method_12_code 85 = .ok (.iconst 1, 1) := by decide +kernel
theorem d_L_isTold_86 : decode prog_7_method_12_code 86 = .ok (.goto 4, 3) := by decide +kernel
theorem d_L_isTold_39 : decode prog_7_method_12_code 39 = .ok (.aload_n 0, 1) := by decide +kernel
theorem d_L_isTold_40 : decode prog_7_method_12_code 40 = .ok (.getfield 45, 3) := by decide +kernel
theorem d_L_isTold_43 : decode prog_7_method_12_code 43 = .ok (.iload_n 1, 1) := by decide +kernel
theorem d_L_isTold_44 : decode prog_7_method_12_code 44 = .ok (.iaload, 1) := by decide +kernel
theorem d_L_isTold_45 : decode prog_7_method_12_code 45 = .ok (.aload_n 0, 1) := by decide +kernel
theorem d_L_isTold_46 : decode prog_7_method_12_code 46 = .ok (.getfield 45, 3) := by decide +kernel
theorem d_L_isTold_49 : decode prog_7_method_12_code 49 = .ok (.iload_n 2, 1) := by decide +kernel
theorem d_L_isTold_50 : decode prog_7_method_12_code 50 = .ok (.iaload, 1) := by decide +kernel
theorem d_L_isTold_51 : decode prog_7_method_12_code 51 = .ok (.if_icmp .ge 7, 3) := by decide +kernel
theorem d_L_isTold_58 : decode prog_7_method_12_code 58 = .ok (.iconst 0, 1) := by decide +kernel
theorem d_L_isTold_59 : decode prog_7_method_12_code 59 = .ok (.ireturn, 1) := by decide +kernel
theorem d_L_isTold_54 : decode prog_7_method_12_code 54 = .ok (.iconst 1, 1) := by decide +kernel
theorem d_L_isTold_55 : decode prog_7_method_12_code 55 = .ok (.goto 4, 3) := by decide +kernel
theorem d_L_isTold_28 : decode prog_7_method_12_code 28 = .ok (.aload_n 0, 1) := by decide +kernel
theorem d_L_isTold_29 : decode prog_7_method_12_code 29 = .ok (.getfield 36, 3) := by decide +kernel
theorem d_L_isTold_32 : decode prog_7_method_12_code 32 = .ok (.iload_n 2, 1) := by decide +kernel
theorem d_L_isTold_33 : decode prog_7_method_12_code 33 = .ok (.iaload, 1) := by decide +kernel
theorem d_L_isTold_34 : decode prog_7_method_12_code 34 = .ok (.iload_n 1, 1) := by decide +kernel
theorem d_L_isTold_35 : decode prog_7_method_12_code 35 = .ok (.invokestatic 68, 3) := by decide +kernel
theorem d_L_isTold_38 : decode prog_7_method_12_code 38 = .ok (.ireturn, 1) := by decide +kernel
theorem d_L_toldWrongly_0 : decode prog_7_method_13_code 0 = .ok (.iconst 0, 1) := by decide +kernel
theorem d_L_toldWrongly_1 : decode prog_7_method_13_code 1 = .ok (.istore_n 2, 1) := by decide +kernel
theorem d_L_toldWrongly_2 : decode prog_7_method_13_code 2 = .ok (.iconst 0, 1) := by decide +kernel
theorem d_L_toldWrongly_3 : decode prog_7_method_13_code 3 = .ok (.istore_n 3, 1) := by decide +kernel
theorem d_L_toldWrongly_4 : decode prog_7_method_13_code 4 = .ok (.iload_n 3, 1) := by decide +kernel
theorem d_L_toldWrongly_5 : decode prog_7_method_13_code 5 = .ok (.aload_n 0, 1) := by decide +kernel
theorem d_L_toldWrongly_6 : decode prog_7_method_13_code 6 = .ok (.getfield 57, 3) := by decide +kernel
theorem d_L_toldWrongly_9 : decode prog_7_method_13_code 9 = .ok (.if_icmp .ge 58, 3) := by decide +kernel
theorem d_L_toldWrongly_12 : decode prog_7_method_13_code 12 = .ok (.iconst 0, 1) := by decide +kernel
theorem d_L_toldWrongly_13 : decode prog_7_method_13_code 13 = .ok (.istore 4, 2) := by decide +kernel
theorem d_L_toldWrongly_15 : decode prog_7_method_13_code 15 = .ok (.iload 4, 2) := by decide +kernel
theorem d_L_toldWrongly_17 : decode prog_7_method_13_code 17 = .ok (.aload_n 0, 1) := by decide +kernel
theorem d_L_toldWrongly_18 : decode prog_7_method_13_code 18 = .ok (.getfield 57, 3) := by decide +kernel
theorem d_L_toldWrongly_21 : decode prog_7_method_13_code 21 = .ok (.if_icmp .ge 40, 3) := by decide +kernel
theorem d_L_toldWrongly_24 : decode prog_7_method_13_code 24 = .ok (.iload_n 3, 1) := by decide +kernel
theorem d_L_toldWrongly_25 : decode prog_7_method_13_code 25 = .ok (.iload 4, 2) := by decide +kernel
theorem d_L_toldWrongly_27 : decode prog_7_method_13_code 27 = .ok (.if_icmp .eq 28, 3) := by decide +kernel
theorem d_L_toldWrongly_55 : decode prog_7_method_13_code 55 = .ok (.iinc 4 1, 3) := by decide +kernel
theorem d_L_toldWrongly_58 : decode prog_7_method_13_code 58 = .ok (.goto (-43), 3) := by decide +kernel
theorem d_L_toldWrongly_30 : decode prog_7_method_13_code 30 = .ok (.aload_n 0, 1) := by decide +kernel
theorem d_L_toldWrongly_31 : decode prog_7_method_13_code 31 = .ok (.iload_n 3, 1) := by decide +kernel
theorem d_L_toldWrongly_32 : decode prog_7_method_13_code 32 = .ok (.iload 4, 2) := by decide +kernel
theorem d_L_toldWrongly_34 : decode prog_7_method_13_code 34 = .ok (.iload_n 1, 1) := by decide +kernel
theorem d_L_toldWrongly_35 : decode prog_7_method_13_code 35 = .ok (.invokevirtual 103, 3) := by decide +kernel
theorem d_L_toldWrongly_38 : decode prog_7_method_13_code 38 = .ok (.aload_n 0, 1) := by decide +kernel
theorem d_L_toldWrongly_39 : decode prog_7_method_13_code 39 = .ok (.getfield 33, 3) := by decide +kernel
theorem d_L_toldWrongly_42 : decode prog_7_method_13_code 42 = .ok (.iload 4, 2) := by decide +kernel
theorem d_L_toldWrongly_44 : decode prog_7_method_13_code 44 = .ok (.iaload, 1) := by decide +kernel
theorem d_L_toldWrongly_45 : decode prog_7_method_13_code 45 = .ok (.iload_n 3, 1) := by decide +kernel
theorem d_L_toldWrongly_46 : decode prog_7_method_13_code 46 = .ok (.invokestatic 68, 3) := by decide +kernel
theorem d_L_toldWrongly_49 : decode prog_7_method_13_code 49 = .ok (.if_icmp .eq 6, 3) := by decide +kernel
theorem d_L_toldWrongly_52 : decode prog_7_method_13_code 52 = .ok (.iinc 2 1, 3) := by decide +kernel
theorem d_L_toldWrongly_61 : decode prog_7_method_13_code 61 = .ok (.iinc 3 1, 3) := by decide +kernel
theorem d_L_toldWrongly_64 : decode prog_7_method_13_code 64 = .ok (.goto (-60), 3) := by decide +kernel
theorem d_L_toldWrongly_67 : decode prog_7_method_13_code 67 = .ok (.iload_n 2, 1) := by decide +kernel
theorem d_L_toldWrongly_68 : decode prog_7_method_13_code 68 = .ok (.ireturn, 1) := by decide +kernel
theorem d_L_isSet_0 : decode prog_7_method_5_code 0 = .ok (.iload_n 1, 1) := by decide +kernel
theorem d_L_isSet_1 : decode prog_7_method_5_code 1 = .ok (.ifCond .lt 23, 3) := by decide +kernel
theorem d_L_isSet_24 : decode prog_7_method_5_code 24 = .ok (.iconst 0, 1) := by decide +kernel
theorem d_L_isSet_25 : decode prog_7_method_5_code 25 = .ok (.ireturn, 1) := by decide +kernel
theorem d_L_isSet_4 : decode prog_7_method_5_code 4 = .ok (.iload_n 1, 1) := by decide +kernel
theorem d_L_isSet_5 : decode prog_7_method_5_code 5 = .ok (.aload_n 0, 1) := by decide +kernel
theorem d_L_isSet_6 : decode prog_7_method_5_code 6 = .ok (.getfield 57, 3) := by decide +kernel
theorem d_L_isSet_9 : decode prog_7_method_5_code 9 = .ok (.invokestatic 72, 3) := by decide +kernel
theorem d_L_isSet_12 : decode prog_7_method_5_code 12 = .ok (.iconst 1, 1) := by decide +kernel
theorem d_L_isSet_13 : decode prog_7_method_5_code 13 = .ok (.isub, 1) := by decide +kernel
theorem d_L_isSet_14 : decode prog_7_method_5_code 14 = .ok (.iconst (-1), 1) := by decide +kernel
theorem d_L_isSet_15 : decode prog_7_method_5_code 15 = .ok (.ixor, 1) := by decide +kernel
theorem d_L_isSet_16 : decode prog_7_method_5_code 16 = .ok (.iand, 1) := by decide +kernel
theorem d_L_isSet_17 : decode prog_7_method_5_code 17 = .ok (.ifCond .ne 7, 3) := by decide +kernel
theorem d_L_isSet_20 : decode prog_7_method_5_code 20 = .ok (.iconst 1, 1) := by decide +kernel
theorem d_L_isSet_21 : decode prog_7_method_5_code 21 = .ok (.goto 4, 3) := by decide +kernel
theorem d_L_isLeft_0 : decode prog_7_method_4_code 0 = .ok (.aload_n 0, 1) := by decide +kernel
theorem d_L_isLeft_1 : decode prog_7_method_4_code 1 = .ok (.iload_n 1, 1) := by decide +kernel
theorem d_L_isLeft_2 : decode prog_7_method_4_code 2 = .ok (.invokevirtual 61, 3) := by decide +kernel
theorem d_L_isLeft_5 : decode prog_7_method_4_code 5 = .ok (.ifCond .eq 18, 3) := by decide +kernel
theorem d_L_isLeft_23 : decode prog_7_method_4_code 23 = .ok (.iconst 0, 1) := by decide +kernel
theorem d_L_isLeft_24 : decode prog_7_method_4_code 24 = .ok (.ireturn, 1) := by decide +kernel
theorem d_L_isLeft_8 : decode prog_7_method_4_code 8 = .ok (.aload_n 0, 1) := by decide +kernel
theorem d_L_isLeft_9 : decode prog_7_method_4_code 9 = .ok (.getfield 65, 3) := by decide +kernel
theorem d_L_isLeft_12 : decode prog_7_method_4_code 12 = .ok (.iload_n 1, 1) := by decide +kernel
theorem d_L_isLeft_13 : decode prog_7_method_4_code 13 = .ok (.invokestatic 68, 3) := by decide +kernel
theorem d_L_isLeft_16 : decode prog_7_method_4_code 16 = .ok (.ifCond .eq 7, 3) := by decide +kernel
theorem d_L_isLeft_19 : decode prog_7_method_4_code 19 = .ok (.iconst 1, 1) := by decide +kernel
theorem d_L_isLeft_20 : decode prog_7_method_4_code 20 = .ok (.goto 4, 3) := by decide +kernel
theorem d_L_citesThroughLeft_0 : decode prog_7_method_17_code 0 = .ok (.iload_n 1, 1) := by decide +kernel
theorem d_L_citesThroughLeft_1 : decode prog_7_method_17_code 1 = .ok (.invokestatic 72, 3) := by decide +kernel
theorem d_L_citesThroughLeft_4 : decode prog_7_method_17_code 4 = .ok (.istore_n 3, 1) := by decide +kernel
theorem d_L_citesThroughLeft_5 : decode prog_7_method_17_code 5 = .ok (.iload_n 1, 1) := by decide +kernel
theorem d_L_citesThroughLeft_6 : decode prog_7_method_17_code 6 = .ok (.istore 4, 2) := by decide +kernel
theorem d_L_citesThroughLeft_8 : decode prog_7_method_17_code 8 = .ok (.iload 4, 2) := by decide +kernel
theorem d_L_citesThroughLeft_10 : decode prog_7_method_17_code 10 = .ok (.iload_n 2, 1) := by decide +kernel
theorem d_L_citesThroughLeft_11 : decode prog_7_method_17_code 11 = .ok (.if_icmp .le 32, 3) := by decide +kernel
theorem d_L_citesThroughLeft_14 : decode prog_7_method_17_code 14 = .ok (.iload_n 3, 1) := by decide +kernel
theorem d_L_citesThroughLeft_15 : decode prog_7_method_17_code 15 = .ok (.iload 4, 2) := by decide +kernel
theorem d_L_citesThroughLeft_17 : decode prog_7_method_17_code 17 = .ok (.invokestatic 68, 3) := by decide +kernel
theorem d_L_citesThroughLeft_20 : decode prog_7_method_17_code 20 = .ok (.ifCond .eq 17, 3) := by decide +kernel
theorem d_L_citesThroughLeft_37 : decode prog_7_method_17_code 37 = .ok (.iinc 4 (-1), 3) := by decide +kernel
theorem d_L_citesThroughLeft_40 : decode prog_7_method_17_code 40 = .ok (.goto (-32), 3) := by decide +kernel
theorem d_L_citesThroughLeft_23 : decode prog_7_method_17_code 23 = .ok (.iload_n 3, 1) := by decide +kernel
theorem d_L_citesThroughLeft_24 : decode prog_7_method_17_code 24 = .ok (.aload_n 0, 1) := by decide +kernel
theorem d_L_citesThroughLeft_25 : decode prog_7_method_17_code 25 = .ok (.iload 4, 2) := by decide +kernel
theorem d_L_citesThroughLeft_27 : decode prog_7_method_17_code 27 = .ok (.invokevirtual 83, 3) := by decide +kernel
theorem d_L_citesThroughLeft_30 : decode prog_7_method_17_code 30 = .ok (.aload_n 0, 1) := by decide +kernel
theorem d_L_citesThroughLeft_31 : decode prog_7_method_17_code 31 = .ok (.getfield 65, 3) := by decide +kernel
theorem d_L_citesThroughLeft_34 : decode prog_7_method_17_code 34 = .ok (.iand, 1) := by decide +kernel
theorem d_L_citesThroughLeft_35 : decode prog_7_method_17_code 35 = .ok (.ior, 1) := by decide +kernel
theorem d_L_citesThroughLeft_36 : decode prog_7_method_17_code 36 = .ok (.istore_n 3, 1) := by decide +kernel
theorem d_L_citesThroughLeft_43 : decode prog_7_method_17_code 43 = .ok (.iload_n 3, 1) := by decide +kernel
theorem d_L_citesThroughLeft_44 : decode prog_7_method_17_code 44 = .ok (.iload_n 2, 1) := by decide +kernel
theorem d_L_citesThroughLeft_45 : decode prog_7_method_17_code 45 = .ok (.invokestatic 68, 3) := by decide +kernel
theorem d_L_citesThroughLeft_48 : decode prog_7_method_17_code 48 = .ok (.ireturn, 1) := by decide +kernel
theorem d_L_ofWriter_0 : decode prog_7_method_21_code 0 = .ok (.iconst 0, 1) := by decide +kernel
theorem d_L_ofWriter_1 : decode prog_7_method_21_code 1 = .ok (.istore_n 3, 1) := by decide +kernel
theorem d_L_ofWriter_2 : decode prog_7_method_21_code 2 = .ok (.iconst 0, 1) := by decide +kernel
theorem d_L_ofWriter_3 : decode prog_7_method_21_code 3 = .ok (.istore 4, 2) := by decide +kernel
theorem d_L_ofWriter_5 : decode prog_7_method_21_code 5 = .ok (.iload 4, 2) := by decide +kernel
theorem d_L_ofWriter_7 : decode prog_7_method_21_code 7 = .ok (.aload_n 0, 1) := by decide +kernel
theorem d_L_ofWriter_8 : decode prog_7_method_21_code 8 = .ok (.getfield 57, 3) := by decide +kernel
theorem d_L_ofWriter_11 : decode prog_7_method_21_code 11 = .ok (.if_icmp .ge 31, 3) := by decide +kernel
theorem d_L_ofWriter_14 : decode prog_7_method_21_code 14 = .ok (.aload_n 0, 1) := by decide +kernel
theorem d_L_ofWriter_15 : decode prog_7_method_21_code 15 = .ok (.getfield 9, 3) := by decide +kernel
theorem d_L_ofWriter_18 : decode prog_7_method_21_code 18 = .ok (.iload 4, 2) := by decide +kernel
theorem d_L_ofWriter_20 : decode prog_7_method_21_code 20 = .ok (.iaload, 1) := by decide +kernel
theorem d_L_ofWriter_21 : decode prog_7_method_21_code 21 = .ok (.iload_n 1, 1) := by decide +kernel
theorem d_L_ofWriter_22 : decode prog_7_method_21_code 22 = .ok (.if_icmp .ne 14, 3) := by decide +kernel
theorem d_L_ofWriter_36 : decode prog_7_method_21_code 36 = .ok (.iinc 4 1, 3) := by decide +kernel
theorem d_L_ofWriter_39 : decode prog_7_method_21_code 39 = .ok (.goto (-34), 3) := by decide +kernel
theorem d_L_ofWriter_25 : decode prog_7_method_21_code 25 = .ok (.iinc 3 1, 3) := by decide +kernel
theorem d_L_ofWriter_28 : decode prog_7_method_21_code 28 = .ok (.iload_n 3, 1) := by decide +kernel
theorem d_L_ofWriter_29 : decode prog_7_method_21_code 29 = .ok (.iload_n 2, 1) := by decide +kernel
theorem d_L_ofWriter_30 : decode prog_7_method_21_code 30 = .ok (.if_icmp .ne 6, 3) := by decide +kernel
theorem d_L_ofWriter_33 : decode prog_7_method_21_code 33 = .ok (.iload 4, 2) := by decide +kernel
theorem d_L_ofWriter_35 : decode prog_7_method_21_code 35 = .ok (.ireturn, 1) := by decide +kernel
theorem d_L_ofWriter_42 : decode prog_7_method_21_code 42 = .ok (.iconst (-1), 1) := by decide +kernel
theorem d_L_ofWriter_43 : decode prog_7_method_21_code 43 = .ok (.ireturn, 1) := by decide +kernel
theorem d_L_writtenBy_0 : decode prog_7_method_20_code 0 = .ok (.iconst 0, 1) := by decide +kernel
theorem d_L_writtenBy_1 : decode prog_7_method_20_code 1 = .ok (.istore_n 3, 1) := by decide +kernel
theorem d_L_writtenBy_2 : decode prog_7_method_20_code 2 = .ok (.iconst 0, 1) := by decide +kernel
theorem d_L_writtenBy_3 : decode prog_7_method_20_code 3 = .ok (.istore 4, 2) := by decide +kernel
theorem d_L_writtenBy_5 : decode prog_7_method_20_code 5 = .ok (.iload 4, 2) := by decide +kernel
theorem d_L_writtenBy_7 : decode prog_7_method_20_code 7 = .ok (.aload_n 0, 1) := by decide +kernel
theorem d_L_writtenBy_8 : decode prog_7_method_20_code 8 = .ok (.getfield 57, 3) := by decide +kernel
theorem d_L_writtenBy_11 : decode prog_7_method_20_code 11 = .ok (.if_icmp .ge 34, 3) := by decide +kernel
theorem d_L_writtenBy_14 : decode prog_7_method_20_code 14 = .ok (.aload_n 0, 1) := by decide +kernel
theorem d_L_writtenBy_15 : decode prog_7_method_20_code 15 = .ok (.getfield 9, 3) := by decide +kernel
theorem d_L_writtenBy_18 : decode prog_7_method_20_code 18 = .ok (.iload 4, 2) := by decide +kernel
theorem d_L_writtenBy_20 : decode prog_7_method_20_code 20 = .ok (.iaload, 1) := by decide +kernel
theorem d_L_writtenBy_21 : decode prog_7_method_20_code 21 = .ok (.iload_n 1, 1) := by decide +kernel
theorem d_L_writtenBy_22 : decode prog_7_method_20_code 22 = .ok (.if_icmp .ne 17, 3) := by decide +kernel
theorem d_L_writtenBy_39 : decode prog_7_method_20_code 39 = .ok (.iinc 4 1, 3) := by decide +kernel
theorem d_L_writtenBy_42 : decode prog_7_method_20_code 42 = .ok (.goto (-37), 3) := by decide +kernel
theorem d_L_writtenBy_25 : decode prog_7_method_20_code 25 = .ok (.aload_n 0, 1) := by decide +kernel
theorem d_L_writtenBy_26 : decode prog_7_method_20_code 26 = .ok (.getfield 15, 3) := by decide +kernel
theorem d_L_writtenBy_29 : decode prog_7_method_20_code 29 = .ok (.iload 4, 2) := by decide +kernel
theorem d_L_writtenBy_31 : decode prog_7_method_20_code 31 = .ok (.iaload, 1) := by decide +kernel
theorem d_L_writtenBy_32 : decode prog_7_method_20_code 32 = .ok (.iload_n 2, 1) := by decide +kernel
theorem d_L_writtenBy_33 : decode prog_7_method_20_code 33 = .ok (.if_icmp .gt 6, 3) := by decide +kernel
theorem d_L_writtenBy_36 : decode prog_7_method_20_code 36 = .ok (.iinc 3 1, 3) := by decide +kernel
theorem d_L_writtenBy_45 : decode prog_7_method_20_code 45 = .ok (.iload_n 3, 1) := by decide +kernel
theorem d_L_writtenBy_46 : decode prog_7_method_20_code 46 = .ok (.ireturn, 1) := by decide +kernel
theorem d_L_hanging_0 : decode prog_7_method_19_code 0 = .ok (.iconst 0, 1) := by decide +kernel
theorem d_L_hanging_1 : decode prog_7_method_19_code 1 = .ok (.istore_n 3, 1) := by decide +kernel
theorem d_L_hanging_2 : decode prog_7_method_19_code 2 = .ok (.iconst 0, 1) := by decide +kernel
theorem d_L_hanging_3 : decode prog_7_method_19_code 3 = .ok (.istore 4, 2) := by decide +kernel
theorem d_L_hanging_5 : decode prog_7_method_19_code 5 = .ok (.iload 4, 2) := by decide +kernel
theorem d_L_hanging_7 : decode prog_7_method_19_code 7 = .ok (.aload_n 0, 1) := by decide +kernel
theorem d_L_hanging_8 : decode prog_7_method_19_code 8 = .ok (.getfield 57, 3) := by decide +kernel
theorem d_L_hanging_11 : decode prog_7_method_19_code 11 = .ok (.if_icmp .ge 45, 3) := by decide +kernel
theorem d_L_hanging_14 : decode prog_7_method_19_code 14 = .ok (.iload_n 2, 1) := by decide +kernel
theorem d_L_hanging_15 : decode prog_7_method_19_code 15 = .ok (.ifCond .eq 13, 3) := by decide +kernel
theorem d_L_hanging_28 : decode prog_7_method_19_code 28 = .ok (.aload_n 0, 1) := by decide +kernel
theorem d_L_hanging_29 : decode prog_7_method_19_code 29 = .ok (.getfield 33, 3) := by decide +kernel
theorem d_L_hanging_32 : decode prog_7_method_19_code 32 = .ok (.iload 4, 2) := by decide +kernel
theorem d_L_hanging_34 : decode prog_7_method_19_code 34 = .ok (.iaload, 1) := by decide +kernel
theorem d_L_hanging_35 : decode prog_7_method_19_code 35 = .ok (.iload_n 1, 1) := by decide +kernel
theorem d_L_hanging_36 : decode prog_7_method_19_code 36 = .ok (.invokestatic 68, 3) := by decide +kernel
theorem d_L_hanging_39 : decode prog_7_method_19_code 39 = .ok (.ifCond .eq 11, 3) := by decide +kernel
theorem d_L_hanging_50 : decode prog_7_method_19_code 50 = .ok (.iinc 4 1, 3) := by decide +kernel
theorem d_L_hanging_53 : decode prog_7_method_19_code 53 = .ok (.goto (-48), 3) := by decide +kernel
theorem d_L_hanging_42 : decode prog_7_method_19_code 42 = .ok (.iload_n 3, 1) := by decide +kernel
theorem d_L_hanging_43 : decode prog_7_method_19_code 43 = .ok (.iload 4, 2) := by decide +kernel
theorem d_L_hanging_45 : decode prog_7_method_19_code 45 = .ok (.invokestatic 72, 3) := by decide +kernel
theorem d_L_hanging_48 : decode prog_7_method_19_code 48 = .ok (.ior, 1) := by decide +kernel
theorem d_L_hanging_49 : decode prog_7_method_19_code 49 = .ok (.istore_n 3, 1) := by decide +kernel
theorem d_L_hanging_18 : decode prog_7_method_19_code 18 = .ok (.aload_n 0, 1) := by decide +kernel
theorem d_L_hanging_19 : decode prog_7_method_19_code 19 = .ok (.getfield 36, 3) := by decide +kernel
theorem d_L_hanging_22 : decode prog_7_method_19_code 22 = .ok (.iload 4, 2) := by decide +kernel
theorem d_L_hanging_24 : decode prog_7_method_19_code 24 = .ok (.iaload, 1) := by decide +kernel
theorem d_L_hanging_25 : decode prog_7_method_19_code 25 = .ok (.goto 10, 3) := by decide +kernel
theorem d_L_hanging_56 : decode prog_7_method_19_code 56 = .ok (.iload_n 3, 1) := by decide +kernel
theorem d_L_hanging_57 : decode prog_7_method_19_code 57 = .ok (.ireturn, 1) := by decide +kernel
theorem d_L_isTakenBack_0 : decode prog_7_method_18_code 0 = .ok (.iconst 0, 1) := by decide +kernel
theorem d_L_isTakenBack_1 : decode prog_7_method_18_code 1 = .ok (.istore_n 2, 1) := by decide +kernel
theorem d_L_isTakenBack_2 : decode prog_7_method_18_code 2 = .ok (.iload_n 2, 1) := by decide +kernel
theorem d_L_isTakenBack_3 : decode prog_7_method_18_code 3 = .ok (.aload_n 0, 1) := by decide +kernel
theorem d_L_isTakenBack_4 : decode prog_7_method_18_code 4 = .ok (.getfield 57, 3) := by decide +kernel
theorem d_L_isTakenBack_7 : decode prog_7_method_18_code 7 = .ok (.if_icmp .ge 31, 3) := by decide +kernel
theorem d_L_isTakenBack_10 : decode prog_7_method_18_code 10 = .ok (.aload_n 0, 1) := by decide +kernel
theorem d_L_isTakenBack_11 : decode prog_7_method_18_code 11 = .ok (.getfield 18, 3) := by decide +kernel
theorem d_L_isTakenBack_14 : decode prog_7_method_18_code 14 = .ok (.iload_n 2, 1) := by decide +kernel
theorem d_L_isTakenBack_15 : decode prog_7_method_18_code 15 = .ok (.iaload, 1) := by decide +kernel
theorem d_L_isTakenBack_16 : decode prog_7_method_18_code 16 = .ok (.iconst 2, 1) := by decide +kernel
theorem d_L_isTakenBack_17 : decode prog_7_method_18_code 17 = .ok (.if_icmp .ne 15, 3) := by decide +kernel
theorem d_L_isTakenBack_32 : decode prog_7_method_18_code 32 = .ok (.iinc 2 1, 3) := by decide +kernel
theorem d_L_isTakenBack_35 : decode prog_7_method_18_code 35 = .ok (.goto (-33), 3) := by decide +kernel
theorem d_L_isTakenBack_20 : decode prog_7_method_18_code 20 = .ok (.aload_n 0, 1) := by decide +kernel
theorem d_L_isTakenBack_21 : decode prog_7_method_18_code 21 = .ok (.getfield 24, 3) := by decide +kernel
theorem d_L_isTakenBack_24 : decode prog_7_method_18_code 24 = .ok (.iload_n 2, 1) := by decide +kernel
theorem d_L_isTakenBack_25 : decode prog_7_method_18_code 25 = .ok (.iaload, 1) := by decide +kernel
theorem d_L_isTakenBack_26 : decode prog_7_method_18_code 26 = .ok (.iload_n 1, 1) := by decide +kernel
theorem d_L_isTakenBack_27 : decode prog_7_method_18_code 27 = .ok (.if_icmp .ne 5, 3) := by decide +kernel
theorem d_L_isTakenBack_30 : decode prog_7_method_18_code 30 = .ok (.iconst 1, 1) := by decide +kernel
theorem d_L_isTakenBack_31 : decode prog_7_method_18_code 31 = .ok (.ireturn, 1) := by decide +kernel
theorem d_L_isTakenBack_38 : decode prog_7_method_18_code 38 = .ok (.iconst 0, 1) := by decide +kernel
theorem d_L_isTakenBack_39 : decode prog_7_method_18_code 39 = .ok (.ireturn, 1) := by decide +kernel
