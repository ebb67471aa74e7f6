theorem d_S_isDigit_0 : decode prog_10_method_6_code 0 = .ok (.iload_n 0, 1) := by decide +kernel
theorem d_S_isDigit_1 : decode prog_10_method_6_code 1 = .ok (.bipush 48, 2) := by decide +kernel
theorem d_S_isDigit_3 : decode prog_10_method_6_code 3 = .ok (.if_icmp .lt 13, 3) := by decide +kernel
theorem d_S_isDigit_16 : decode prog_10_method_6_code 16 = .ok (.iconst 0, 1) := by decide +kernel
theorem d_S_isDigit_17 : decode prog_10_method_6_code 17 = .ok (.ireturn, 1) := by decide +kernel
theorem d_S_isDigit_6 : decode prog_10_method_6_code 6 = .ok (.iload_n 0, 1) := by decide +kernel
theorem d_S_isDigit_7 : decode prog_10_method_6_code 7 = .ok (.bipush 57, 2) := by decide +kernel
theorem d_S_isDigit_9 : decode prog_10_method_6_code 9 = .ok (.if_icmp .gt 7, 3) := by decide +kernel
theorem d_S_isDigit_12 : decode prog_10_method_6_code 12 = .ok (.iconst 1, 1) := by decide +kernel
theorem d_S_isDigit_13 : decode prog_10_method_6_code 13 = .ok (.goto 4, 3) := by decide +kernel
theorem d_S_isOneSign_0 : decode prog_10_method_8_code 0 = .ok (.iload_n 0, 1) := by decide +kernel
theorem d_S_isOneSign_1 : decode prog_10_method_8_code 1 = .ok (.bipush 60, 2) := by decide +kernel
theorem d_S_isOneSign_3 : decode prog_10_method_8_code 3 = .ok (.if_icmp .eq 9, 3) := by decide +kernel
theorem d_S_isOneSign_12 : decode prog_10_method_8_code 12 = .ok (.iload_n 1, 1) := by decide +kernel
theorem d_S_isOneSign_13 : decode prog_10_method_8_code 13 = .ok (.bipush 61, 2) := by decide +kernel
theorem d_S_isOneSign_15 : decode prog_10_method_8_code 15 = .ok (.if_icmp .eq 15, 3) := by decide +kernel
theorem d_S_isOneSign_30 : decode prog_10_method_8_code 30 = .ok (.iconst 1, 1) := by decide +kernel
theorem d_S_isOneSign_31 : decode prog_10_method_8_code 31 = .ok (.goto 4, 3) := by decide +kernel
theorem d_S_isOneSign_35 : decode prog_10_method_8_code 35 = .ok (.ireturn, 1) := by decide +kernel
theorem d_S_isOneSign_18 : decode prog_10_method_8_code 18 = .ok (.iload_n 0, 1) := by decide +kernel
theorem d_S_isOneSign_19 : decode prog_10_method_8_code 19 = .ok (.bipush 60, 2) := by decide +kernel
theorem d_S_isOneSign_21 : decode prog_10_method_8_code 21 = .ok (.if_icmp .ne 13, 3) := by decide +kernel
theorem d_S_isOneSign_34 : decode prog_10_method_8_code 34 = .ok (.iconst 0, 1) := by decide +kernel
theorem d_S_isOneSign_24 : decode prog_10_method_8_code 24 = .ok (.iload_n 1, 1) := by decide +kernel
theorem d_S_isOneSign_25 : decode prog_10_method_8_code 25 = .ok (.bipush 62, 2) := by decide +kernel
theorem d_S_isOneSign_27 : decode prog_10_method_8_code 27 = .ok (.if_icmp .ne 7, 3) := by decide +kernel
theorem d_S_isOneSign_6 : decode prog_10_method_8_code 6 = .ok (.iload_n 0, 1) := by decide +kernel
theorem d_S_isOneSign_7 : decode prog_10_method_8_code 7 = .ok (.bipush 62, 2) := by decide +kernel
theorem d_S_isOneSign_9 : decode prog_10_method_8_code 9 = .ok (.if_icmp .ne 9, 3) := by decide +kernel
theorem d_S_isSmallLetter_0 : decode prog_10_method_7_code 0 = .ok (.iload_n 0, 1) := by decide +kernel
theorem d_S_isSmallLetter_1 : decode prog_10_method_7_code 1 = .ok (.bipush 97, 2) := by decide +kernel
theorem d_S_isSmallLetter_3 : decode prog_10_method_7_code 3 = .ok (.if_icmp .lt 13, 3) := by decide +kernel
theorem d_S_isSmallLetter_16 : decode prog_10_method_7_code 16 = .ok (.iconst 0, 1) := by decide +kernel
theorem d_S_isSmallLetter_17 : decode prog_10_method_7_code 17 = .ok (.ireturn, 1) := by decide +kernel
theorem d_S_isSmallLetter_6 : decode prog_10_method_7_code 6 = .ok (.iload_n 0, 1) := by decide +kernel
theorem d_S_isSmallLetter_7 : decode prog_10_method_7_code 7 = .ok (.bipush 122, 2) := by decide +kernel
theorem d_S_isSmallLetter_9 : decode prog_10_method_7_code 9 = .ok (.if_icmp .gt 7, 3) := by decide +kernel
theorem d_S_isSmallLetter_12 : decode prog_10_method_7_code 12 = .ok (.iconst 1, 1) := by decide +kernel
theorem d_S_isSmallLetter_13 : decode prog_10_method_7_code 13 = .ok (.goto 4, 3) := by decide +kernel
theorem d_S_endOf_0 : decode prog_10_method_4_code 0 = .ok (.iload_n 1, 1) := by decide +kernel
theorem d_S_endOf_1 : decode prog_10_method_4_code 1 = .ok (.iconst 1, 1) := by decide +kernel
theorem d_S_endOf_2 : decode prog_10_method_4_code 2 = .ok (.iadd, 1) := by decide +kernel
theorem d_S_endOf_3 : decode prog_10_method_4_code 3 = .ok (.istore_n 2, 1) := by decide +kernel
theorem d_S_endOf_4 : decode prog_10_method_4_code 4 = .ok (.aload_n 0, 1) := by decide +kernel
theorem d_S_endOf_5 : decode prog_10_method_4_code 5 = .ok (.getfield 24, 3) := by decide +kernel
theorem d_S_endOf_8 : decode prog_10_method_4_code 8 = .ok (.iload_n 1, 1) := by decide +kernel
theorem d_S_endOf_9 : decode prog_10_method_4_code 9 = .ok (.iaload, 1) := by decide +kernel
theorem d_S_endOf_10 : decode prog_10_method_4_code 10 = .ok (.invokestatic 69, 3) := by decide +kernel
theorem d_S_endOf_13 : decode prog_10_method_4_code 13 = .ok (.ifCond .eq 29, 3) := by decide +kernel
theorem d_S_endOf_42 : decode prog_10_method_4_code 42 = .ok (.aload_n 0, 1) := by decide +kernel
theorem d_S_endOf_43 : decode prog_10_method_4_code 43 = .ok (.getfield 24, 3) := by decide +kernel
theorem d_S_endOf_46 : decode prog_10_method_4_code 46 = .ok (.iload_n 1, 1) := by decide +kernel
theorem d_S_endOf_47 : decode prog_10_method_4_code 47 = .ok (.iaload, 1) := by decide +kernel
theorem d_S_endOf_48 : decode prog_10_method_4_code 48 = .ok (.invokestatic 40, 3) := by decide +kernel
theorem d_S_endOf_51 : decode prog_10_method_4_code 51 = .ok (.ifCond .eq 29, 3) := by decide +kernel
theorem d_S_endOf_80 : decode prog_10_method_4_code 80 = .ok (.iload_n 2, 1) := by decide +kernel
theorem d_S_endOf_81 : decode prog_10_method_4_code 81 = .ok (.aload_n 0, 1) := by decide +kernel
theorem d_S_endOf_82 : decode prog_10_method_4_code 82 = .ok (.getfield 33, 3) := by decide +kernel
theorem d_S_endOf_85 : decode prog_10_method_4_code 85 = .ok (.if_icmp .ge 24, 3) := by decide +kernel
theorem d_S_endOf_109 : decode prog_10_method_4_code 109 = .ok (.iload_n 2, 1) := by decide +kernel
theorem d_S_endOf_110 : decode prog_10_method_4_code 110 = .ok (.ireturn, 1) := by decide +kernel
theorem d_S_endOf_88 : decode prog_10_method_4_code 88 = .ok (.aload_n 0, 1) := by decide +kernel
theorem d_S_endOf_89 : decode prog_10_method_4_code 89 = .ok (.getfield 24, 3) := by decide +kernel
theorem d_S_endOf_92 : decode prog_10_method_4_code 92 = .ok (.iload_n 1, 1) := by decide +kernel
theorem d_S_endOf_93 : decode prog_10_method_4_code 93 = .ok (.iaload, 1) := by decide +kernel
theorem d_S_endOf_94 : decode prog_10_method_4_code 94 = .ok (.aload_n 0, 1) := by decide +kernel
theorem d_S_endOf_95 : decode prog_10_method_4_code 95 = .ok (.getfield 24, 3) := by decide +kernel
theorem d_S_endOf_98 : decode prog_10_method_4_code 98 = .ok (.iload_n 2, 1) := by decide +kernel
theorem d_S_endOf_99 : decode prog_10_method_4_code 99 = .ok (.iaload, 1) := by decide +kernel
theorem d_S_endOf_100 : decode prog_10_method_4_code 100 = .ok (.invokestatic 72, 3) := by decide +kernel
theorem d_S_endOf_103 : decode prog_10_method_4_code 103 = .ok (.ifCond .eq 6, 3) := by decide +kernel
theorem d_S_endOf_106 : decode prog_10_method_4_code 106 = .ok (.iinc 2 1, 3) := by decide +kernel
theorem d_S_endOf_54 : decode prog_10_method_4_code 54 = .ok (.iload_n 2, 1) := by decide +kernel
theorem d_S_endOf_55 : decode prog_10_method_4_code 55 = .ok (.aload_n 0, 1) := by decide +kernel
theorem d_S_endOf_56 : decode prog_10_method_4_code 56 = .ok (.getfield 33, 3) := by decide +kernel
theorem d_S_endOf_59 : decode prog_10_method_4_code 59 = .ok (.if_icmp .ge 50, 3) := by decide +kernel
theorem d_S_endOf_62 : decode prog_10_method_4_code 62 = .ok (.aload_n 0, 1) := by decide +kernel
theorem d_S_endOf_63 : decode prog_10_method_4_code 63 = .ok (.getfield 24, 3) := by decide +kernel
theorem d_S_endOf_66 : decode prog_10_method_4_code 66 = .ok (.iload_n 2, 1) := by decide +kernel
theorem d_S_endOf_67 : decode prog_10_method_4_code 67 = .ok (.iaload, 1) := by decide +kernel
theorem d_S_endOf_68 : decode prog_10_method_4_code 68 = .ok (.invokestatic 40, 3) := by decide +kernel
theorem d_S_endOf_71 : decode prog_10_method_4_code 71 = .ok (.ifCond .eq 38, 3) := by decide +kernel
theorem d_S_endOf_74 : decode prog_10_method_4_code 74 = .ok (.iinc 2 1, 3) := by decide +kernel
theorem d_S_endOf_77 : decode prog_10_method_4_code 77 = .ok (.goto (-23), 3) := by decide +kernel
theorem d_S_endOf_16 : decode prog_10_method_4_code 16 = .ok (.iload_n 2, 1) := by decide +kernel
theorem d_S_endOf_17 : decode prog_10_method_4_code 17 = .ok (.aload_n 0, 1) := by decide +kernel
theorem d_S_endOf_18 : decode prog_10_method_4_code 18 = .ok (.getfield 33, 3) := by decide +kernel
theorem d_S_endOf_21 : decode prog_10_method_4_code 21 = .ok (.if_icmp .ge 88, 3) := by decide +kernel
theorem d_S_endOf_24 : decode prog_10_method_4_code 24 = .ok (.aload_n 0, 1) := by decide +kernel
theorem d_S_endOf_25 : decode prog_10_method_4_code 25 = .ok (.getfield 24, 3) := by decide +kernel
theorem d_S_endOf_28 : decode prog_10_method_4_code 28 = .ok (.iload_n 2, 1) := by decide +kernel
theorem d_S_endOf_29 : decode prog_10_method_4_code 29 = .ok (.iaload, 1) := by decide +kernel
theorem d_S_endOf_30 : decode prog_10_method_4_code 30 = .ok (.invokestatic 69, 3) := by decide +kernel
theorem d_S_endOf_33 : decode prog_10_method_4_code 33 = .ok (.ifCond .eq 76, 3) := by decide +kernel
theorem d_S_endOf_36 : decode prog_10_method_4_code 36 = .ok (.iinc 2 1, 3) := by decide +kernel
theorem d_S_endOf_39 : decode prog_10_method_4_code 39 = .ok (.goto (-23), 3) := by decide +kernel
theorem d_S_put_0 : decode prog_10_method_3_code 0 = .ok (.aload_n 0, 1) := by decide +kernel
theorem d_S_put_1 : decode prog_10_method_3_code 1 = .ok (.getfield 37, 3) := by decide +kernel
theorem d_S_put_4 : decode prog_10_method_3_code 4 = .ok (.aload_n 0, 1) := by decide +kernel
theorem d_S_put_5 : decode prog_10_method_3_code 5 = .ok (.getfield 11, 3) := by decide +kernel
theorem d_S_put_8 : decode prog_10_method_3_code 8 = .ok (.arraylength, 1) := by decide +kernel
theorem d_S_put_9 : decode prog_10_method_3_code 9 = .ok (.if_icmp .ge 43, 3) := by decide +kernel
theorem d_S_put_52 : decode prog_10_method_3_code 52 = .ok (.return_, 1) := by decide +kernel
theorem d_S_put_12 : decode prog_10_method_3_code 12 = .ok (.aload_n 0, 1) := by decide +kernel
theorem d_S_put_13 : decode prog_10_method_3_code 13 = .ok (.getfield 11, 3) := by decide +kernel
theorem d_S_put_16 : decode prog_10_method_3_code 16 = .ok (.aload_n 0, 1) := by decide +kernel
theorem d_S_put_17 : decode prog_10_method_3_code 17 = .ok (.getfield 37, 3) := by decide +kernel
theorem d_S_put_20 : decode prog_10_method_3_code 20 = .ok (.aload_n 1, 1) := by decide +kernel
theorem d_S_put_21 : decode prog_10_method_3_code 21 = .ok (.aastore, 1) := by decide +kernel
theorem d_S_put_22 : decode prog_10_method_3_code 22 = .ok (.aload_n 0, 1) := by decide +kernel
theorem d_S_put_23 : decode prog_10_method_3_code 23 = .ok (.getfield 17, 3) := by decide +kernel
theorem d_S_put_26 : decode prog_10_method_3_code 26 = .ok (.aload_n 0, 1) := by decide +kernel
theorem d_S_put_27 : decode prog_10_method_3_code 27 = .ok (.getfield 37, 3) := by decide +kernel
theorem d_S_put_30 : decode prog_10_method_3_code 30 = .ok (.iload_n 2, 1) := by decide +kernel
theorem d_S_put_31 : decode prog_10_method_3_code 31 = .ok (.iastore, 1) := by decide +kernel
theorem d_S_put_32 : decode prog_10_method_3_code 32 = .ok (.aload_n 0, 1) := by decide +kernel
theorem d_S_put_33 : decode prog_10_method_3_code 33 = .ok (.getfield 21, 3) := by decide +kernel
theorem d_S_put_36 : decode prog_10_method_3_code 36 = .ok (.aload_n 0, 1) := by decide +kernel
theorem d_S_put_37 : decode prog_10_method_3_code 37 = .ok (.getfield 37, 3) := by decide +kernel
theorem d_S_put_40 : decode prog_10_method_3_code 40 = .ok (.iload_n 3, 1) := by decide +kernel
theorem d_S_put_41 : decode prog_10_method_3_code 41 = .ok (.iastore, 1) := by decide +kernel
theorem d_S_put_42 : decode prog_10_method_3_code 42 = .ok (.aload_n 0, 1) := by decide +kernel
theorem d_S_put_43 : decode prog_10_method_3_code 43 = .ok (.dup, 1) := by decide +kernel
theorem d_S_put_44 : decode prog_10_method_3_code 44 = .ok (.getfield 37, 3) := by decide +kernel
theorem d_S_put_47 : decode prog_10_method_3_code 47 = .ok (.iconst 1, 1) := by decide +kernel
theorem d_S_put_48 : decode prog_10_method_3_code 48 = .ok (.iadd, 1) := by decide +kernel
theorem d_S_put_49 : decode prog_10_method_3_code 49 = .ok (.putfield 37, 3) := by decide +kernel
theorem d_S_worthOf_0 : decode prog_10_method_5_code 0 = .ok (.iconst 0, 1) := by decide +kernel
theorem d_S_worthOf_1 : decode prog_10_method_5_code 1 = .ok (.istore_n 2, 1) := by decide +kernel
theorem d_S_worthOf_2 : decode prog_10_method_5_code 2 = .ok (.iload_n 1, 1) := by decide +kernel
theorem d_S_worthOf_3 : decode prog_10_method_5_code 3 = .ok (.istore_n 3, 1) := by decide +kernel
theorem d_S_worthOf_4 : decode prog_10_method_5_code 4 = .ok (.iload_n 3, 1) := by decide +kernel
theorem d_S_worthOf_5 : decode prog_10_method_5_code 5 = .ok (.aload_n 0, 1) := by decide +kernel
theorem d_S_worthOf_6 : decode prog_10_method_5_code 6 = .ok (.getfield 33, 3) := by decide +kernel
theorem d_S_worthOf_9 : decode prog_10_method_5_code 9 = .ok (.if_icmp .ge 42, 3) := by decide +kernel
theorem d_S_worthOf_12 : decode prog_10_method_5_code 12 = .ok (.aload_n 0, 1) := by decide +kernel
theorem d_S_worthOf_13 : decode prog_10_method_5_code 13 = .ok (.getfield 24, 3) := by decide +kernel
theorem d_S_worthOf_16 : decode prog_10_method_5_code 16 = .ok (.iload_n 3, 1) := by decide +kernel
theorem d_S_worthOf_17 : decode prog_10_method_5_code 17 = .ok (.iaload, 1) := by decide +kernel
theorem d_S_worthOf_18 : decode prog_10_method_5_code 18 = .ok (.invokestatic 40, 3) := by decide +kernel
theorem d_S_worthOf_21 : decode prog_10_method_5_code 21 = .ok (.ifCond .eq 30, 3) := by decide +kernel
theorem d_S_worthOf_24 : decode prog_10_method_5_code 24 = .ok (.sipush 1000, 3) := by decide +kernel
theorem d_S_worthOf_27 : decode prog_10_method_5_code 27 = .ok (.iload_n 2, 1) := by decide +kernel
theorem d_S_worthOf_28 : decode prog_10_method_5_code 28 = .ok (.bipush 10, 2) := by decide +kernel
theorem d_S_worthOf_30 : decode prog_10_method_5_code 30 = .ok (.imul, 1) := by decide +kernel
theorem d_S_worthOf_31 : decode prog_10_method_5_code 31 = .ok (.aload_n 0, 1) := by decide +kernel
theorem d_S_worthOf_32 : decode prog_10_method_5_code 32 = .ok (.getfield 24, 3) := by decide +kernel
theorem d_S_worthOf_35 : decode prog_10_method_5_code 35 = .ok (.iload_n 3, 1) := by decide +kernel
theorem d_S_worthOf_36 : decode prog_10_method_5_code 36 = .ok (.iaload, 1) := by decide +kernel
theorem d_S_worthOf_37 : decode prog_10_method_5_code 37 = .ok (.iadd, 1) := by decide +kernel
theorem d_S_worthOf_38 : decode prog_10_method_5_code 38 = .ok (.bipush 48, 2) := by decide +kernel
theorem d_S_worthOf_40 : decode prog_10_method_5_code 40 = .ok (.isub, 1) := by decide +kernel
theorem d_S_worthOf_41 : decode prog_10_method_5_code 41 = .ok (.invokestatic 27, 3) := by decide +kernel
theorem d_S_worthOf_44 : decode prog_10_method_5_code 44 = .ok (.istore_n 2, 1) := by decide +kernel
theorem d_S_worthOf_45 : decode prog_10_method_5_code 45 = .ok (.iinc 3 1, 3) := by decide +kernel
theorem d_S_worthOf_48 : decode prog_10_method_5_code 48 = .ok (.goto (-44), 3) := by decide +kernel
theorem d_S_worthOf_51 : decode prog_10_method_5_code 51 = .ok (.iload_n 2, 1) := by decide +kernel
theorem d_S_worthOf_52 : decode prog_10_method_5_code 52 = .ok (.ireturn, 1) := by decide +kernel
theorem d_C_bit_0 : decode prog_1_method_44_code 0 = .ok (.iconst 1, 1) := by decide +kernel
theorem d_C_bit_1 : decode prog_1_method_44_code 1 = .ok (.iload_n 0, 1) := by decide +kernel
theorem d_C_bit_2 : decode prog_1_method_44_code 2 = .ok (.ishl, 1) := by decide +kernel
theorem d_C_bit_3 : decode prog_1_method_44_code 3 = .ok (.ireturn, 1) := by decide +kernel
theorem d_C_isIn_0 : decode prog_1_method_45_code 0 = .ok (.iload_n 1, 1) := by decide +kernel
theorem d_C_isIn_1 : decode prog_1_method_45_code 1 = .ok (.ifCond .lt 22, 3) := by decide +kernel
theorem d_C_isIn_23 : decode prog_1_method_45_code 23 = .ok (.iconst 0, 1) := by decide +kernel
theorem d_C_isIn_24 : decode prog_1_method_45_code 24 = .ok (.ireturn, 1) := by decide +kernel
theorem d_C_isIn_4 : decode prog_1_method_45_code 4 = .ok (.iload_n 1, 1) := by decide +kernel
theorem d_C_isIn_5 : decode prog_1_method_45_code 5 = .ok (.bipush 30, 2) := by decide +kernel
theorem d_C_isIn_7 : decode prog_1_method_45_code 7 = .ok (.if_icmp .ge 16, 3) := by decide +kernel
theorem d_C_isIn_10 : decode prog_1_method_45_code 10 = .ok (.iload_n 0, 1) := by decide +kernel
theorem d_C_isIn_11 : decode prog_1_method_45_code 11 = .ok (.iload_n 1, 1) := by decide +kernel
theorem d_C_isIn_12 : decode prog_1_method_45_code 12 = .ok (.ishr, 1) := by decide +kernel
theorem d_C_isIn_13 : decode prog_1_method_45_code 13 = .ok (.iconst 1, 1) := by decide +kernel
theorem d_C_isIn_14 : decode prog_1_method_45_code 14 = .ok (.iand, 1) := by decide +kernel
theorem d_C_isIn_15 : decode prog_1_method_45_code 15 = .ok (.iconst 1, 1) := by decide +kernel
theorem d_C_isIn_16 : decode prog_1_method_45_code 16 = .ok (.if_icmp .ne 7, 3) := by decide +kernel
theorem d_C_isIn_19 : decode prog_1_method_45_code 19 = .ok (.iconst 1, 1) := by decide +kernel
theorem d_C_isIn_20 : decode prog_1_method_45_code 20 = .ok (.goto 4, 3) := by decide +kernel
theorem d_C_isWriter_0 : decode prog_1_method_42_code 0 = .ok (.iload_n 0, 1) := by decide +kernel
theorem d_C_isWriter_1 : decode prog_1_method_42_code 1 = .ok (.ifCond .lt 13, 3) := by decide +kernel
theorem d_C_isWriter_14 : decode prog_1_method_42_code 14 = .ok (.iconst 0, 1) := by decide +kernel
theorem d_C_isWriter_15 : decode prog_1_method_42_code 15 = .ok (.ireturn, 1) := by decide +kernel
theorem d_C_isWriter_4 : decode prog_1_method_42_code 4 = .ok (.iload_n 0, 1) := by decide +kernel
theorem d_C_isWriter_5 : decode prog_1_method_42_code 5 = .ok (.bipush 6, 2) := by decide +kernel
theorem d_C_isWriter_7 : decode prog_1_method_42_code 7 = .ok (.if_icmp .ge 7, 3) := by decide +kernel
theorem d_C_isWriter_10 : decode prog_1_method_42_code 10 = .ok (.iconst 1, 1) := by decide +kernel
theorem d_C_isWriter_11 : decode prog_1_method_42_code 11 = .ok (.goto 4, 3) := by decide +kernel
theorem d_JI_bitCount_0 : decode prog_21_method_49_code 0 = .ok (.iload_n 0, 1) := by decide +kernel
theorem d_JI_bitCount_1 : decode prog_21_method_49_code 1 = .ok (.iload_n 0, 1) := by decide +kernel
theorem d_JI_bitCount_2 : decode prog_21_method_49_code 2 = .ok (.iconst 1, 1) := by decide +kernel
theorem d_JI_bitCount_3 : decode prog_21_method_49_code 3 = .ok (.iushr, 1) := by decide +kernel
theorem d_JI_bitCount_4 : decode prog_21_method_49_code 4 = .ok (.ldc_w 265, 3) := by decide +kernel
theorem d_JI_bitCount_7 : decode prog_21_method_49_code 7 = .ok (.iand, 1) := by decide +kernel
theorem d_JI_bitCount_8 : decode prog_21_method_49_code 8 = .ok (.isub, 1) := by decide +kernel
theorem d_JI_bitCount_9 : decode prog_21_method_49_code 9 = .ok (.istore_n 0, 1) := by decide +kernel
theorem d_JI_bitCount_10 : decode prog_21_method_49_code 10 = .ok (.iload_n 0, 1) := by decide +kernel
theorem d_JI_bitCount_11 : decode prog_21_method_49_code 11 = .ok (.ldc_w 266, 3) := by decide +kernel
theorem d_JI_bitCount_14 : decode prog_21_method_49_code 14 = .ok (.iand, 1) := by decide +kernel
theorem d_JI_bitCount_15 : decode prog_21_method_49_code 15 = .ok (.iload_n 0, 1) := by decide +kernel
theorem d_JI_bitCount_16 : decode prog_21_method_49_code 16 = .ok (.iconst 2, 1) := by decide +kernel
theorem d_JI_bitCount_17 : decode prog_21_method_49_code 17 = .ok (.iushr, 1) := by decide +kernel
theorem d_JI_bitCount_18 : decode prog_21_method_49_code 18 = .ok (.ldc_w 266, 3) := by decide +kernel
theorem d_JI_bitCount_21 : decode prog_21_method_49_code 21 = .ok (.iand, 1) := by decide +kernel
theorem d_JI_bitCount_22 : decode prog_21_method_49_code 22 = .ok (.iadd, 1) := by decide +kernel
theorem d_JI_bitCount_23 : decode prog_21_method_49_code 23 = .ok (.istore_n 0, 1) := by decide +kernel
theorem d_JI_bitCount_24 : decode prog_21_method_49_code 24 = .ok (.iload_n 0, 1) := by decide +kernel
theorem d_JI_bitCount_25 : decode prog_21_method_49_code 25 = .ok (.iload_n 0, 1) := by decide +kernel
theorem d_JI_bitCount_26 : decode prog_21_method_49_code 26 = .ok (.iconst 4, 1) := by decide +kernel
theorem d_JI_bitCount_27 : decode prog_21_method_49_code 27 = .ok (.iushr, 1) := by decide +kernel
theorem d_JI_bitCount_28 : decode prog_21_method_49_code 28 = .ok (.iadd, 1) := by decide +kernel
theorem d_JI_bitCount_29 : decode prog_21_method_49_code 29 = .ok (.ldc_w 267, 3) := by decide +kernel
theorem d_JI_bitCount_32 : decode prog_21_method_49_code 32 = .ok (.iand, 1) := by decide +kernel
theorem d_JI_bitCount_33 : decode prog_21_method_49_code 33 = .ok (.istore_n 0, 1) := by decide +kernel
theorem d_JI_bitCount_34 : decode prog_21_method_49_code 34 = .ok (.iload_n 0, 1) := by decide +kernel
theorem d_JI_bitCount_35 : decode prog_21_method_49_code 35 = .ok (.iload_n 0, 1) := by decide +kernel
theorem d_JI_bitCount_36 : decode prog_21_method_49_code 36 = .ok (.bipush 8, 2) := by decide +kernel
theorem d_JI_bitCount_38 : decode prog_21_method_49_code 38 = .ok (.iushr, 1) := by decide +kernel
theorem d_JI_bitCount_39 : decode prog_21_method_49_code 39 = .ok (.iadd, 1) := by decide +kernel
theorem d_JI_bitCount_40 : decode prog_21_method_49_code 40 = .ok (.istore_n 0, 1) := by decide +kernel
theorem d_JI_bitCount_41 : decode prog_21_method_49_code 41 = .ok (.iload_n 0, 1) := by decide +kernel
theorem d_JI_bitCount_42 : decode prog_21_method_49_code 42 = .ok (.iload_n 0, 1) := by decide +kernel
theorem d_JI_bitCount_43 : decode prog_21_method_49_code 43 = .ok (.bipush 16, 2) := by decide +kernel
theorem d_JI_bitCount_45 : decode prog_21_method_49_code 45 = .ok (.iushr, 1) := by decide +kernel
theorem d_JI_bitCount_46 : decode prog_21_method_49_code 46 = .ok (.iadd, 1) := by decide +kernel
theorem d_JI_bitCount_47 : decode prog_21_method_49_code 47 = .ok (.istore_n 0, 1) := by decide +kernel
theorem d_JI_bitCount_48 : decode prog_21_method_49_code 48 = .ok (.iload_n 0, 1) := by decide +kernel
theorem d_JI_bitCount_49 : decode prog_21_method_49_code 49 = .ok (.bipush 63, 2) := by decide +kernel
theorem d_JI_bitCount_51 : decode prog_21_method_49_code 51 = .ok (.iand, 1) := by decide +kernel
theorem d_JI_bitCount_52 : decode prog_21_method_49_code 52 = .ok (.ireturn, 1) := by decide +kernel
theorem d_C_truth_0 : decode prog_1_method_46_code 0 = .ok (.iload_n 0, 1) := by decide +kernel
theorem d_C_truth_1 : decode prog_1_method_46_code 1 = .ok (.ifCond .eq 7, 3) := by decide +kernel
theorem d_C_truth_8 : decode prog_1_method_46_code 8 = .ok (.iconst 0, 1) := by decide +kernel
theorem d_C_truth_9 : decode prog_1_method_46_code 9 = .ok (.ireturn, 1) := by decide +kernel
theorem d_C_truth_4 : decode prog_1_method_46_code 4 = .ok (.iconst 1, 1) := by decide +kernel
theorem d_C_truth_5 : decode prog_1_method_46_code 5 = .ok (.goto 4, 3) := by decide +kernel
theorem d_C_isBearing_0 : decode prog_1_method_43_code 0 = .ok (.iload_n 0, 1) := by decide +kernel
theorem d_C_isBearing_1 : decode prog_1_method_43_code 1 = .ok (.ifCond .lt 12, 3) := by decide +kernel
theorem d_C_isBearing_13 : decode prog_1_method_43_code 13 = .ok (.iconst 0, 1) := by decide +kernel
theorem d_C_isBearing_14 : decode prog_1_method_43_code 14 = .ok (.ireturn, 1) := by decide +kernel
theorem d_C_isBearing_4 : decode prog_1_method_43_code 4 = .ok (.iload_n 0, 1) := by decide +kernel
theorem d_C_isBearing_5 : decode prog_1_method_43_code 5 = .ok (.iconst 3, 1) := by decide +kernel
theorem d_C_isBearing_6 : decode prog_1_method_43_code 6 = .ok (.if_icmp .gt 7, 3) := by decide +kernel
theorem d_C_isBearing_9 : decode prog_1_method_43_code 9 = .ok (.iconst 1, 1) := by decide +kernel
theorem d_C_isBearing_10 : decode prog_1_method_43_code 10 = .ok (.goto 4, 3) := by decide +kernel
