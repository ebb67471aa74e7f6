theorem d_C_putBytes_0 : decode prog_1_method_47_code 0 = .ok (.bipush 24, 2) := by decide +kernel
theorem d_C_putBytes_2 : decode prog_1_method_47_code 2 = .ok (.istore_n 2, 1) := by decide +kernel
theorem d_C_putBytes_3 : decode prog_1_method_47_code 3 = .ok (.iload_n 2, 1) := by decide +kernel
theorem d_C_putBytes_4 : decode prog_1_method_47_code 4 = .ok (.ifCond .lt 45, 3) := by decide +kernel
theorem d_C_putBytes_7 : decode prog_1_method_47_code 7 = .ok (.aload_n 0, 1) := by decide +kernel
theorem d_C_putBytes_8 : decode prog_1_method_47_code 8 = .ok (.getfield 81, 3) := by decide +kernel
theorem d_C_putBytes_11 : decode prog_1_method_47_code 11 = .ok (.sipush 400, 3) := by decide +kernel
theorem d_C_putBytes_14 : decode prog_1_method_47_code 14 = .ok (.if_icmp .ge 35, 3) := by decide +kernel
theorem d_C_putBytes_17 : decode prog_1_method_47_code 17 = .ok (.aload_n 0, 1) := by decide +kernel
theorem d_C_putBytes_18 : decode prog_1_method_47_code 18 = .ok (.getfield 9, 3) := by decide +kernel
theorem d_C_putBytes_21 : decode prog_1_method_47_code 21 = .ok (.aload_n 0, 1) := by decide +kernel
theorem d_C_putBytes_22 : decode prog_1_method_47_code 22 = .ok (.getfield 81, 3) := by decide +kernel
theorem d_C_putBytes_25 : decode prog_1_method_47_code 25 = .ok (.iload_n 1, 1) := by decide +kernel
theorem d_C_putBytes_26 : decode prog_1_method_47_code 26 = .ok (.iload_n 2, 1) := by decide +kernel
theorem d_C_putBytes_27 : decode prog_1_method_47_code 27 = .ok (.ishr, 1) := by decide +kernel
theorem d_C_putBytes_28 : decode prog_1_method_47_code 28 = .ok (.sipush 255, 3) := by decide +kernel
theorem d_C_putBytes_31 : decode prog_1_method_47_code 31 = .ok (.iand, 1) := by decide +kernel
theorem d_C_putBytes_32 : decode prog_1_method_47_code 32 = .ok (.iastore, 1) := by decide +kernel
theorem d_C_putBytes_33 : decode prog_1_method_47_code 33 = .ok (.aload_n 0, 1) := by decide +kernel
theorem d_C_putBytes_34 : decode prog_1_method_47_code 34 = .ok (.dup, 1) := by decide +kernel
theorem d_C_putBytes_35 : decode prog_1_method_47_code 35 = .ok (.getfield 81, 3) := by decide +kernel
theorem d_C_putBytes_38 : decode prog_1_method_47_code 38 = .ok (.iconst 1, 1) := by decide +kernel
theorem d_C_putBytes_39 : decode prog_1_method_47_code 39 = .ok (.iadd, 1) := by decide +kernel
theorem d_C_putBytes_40 : decode prog_1_method_47_code 40 = .ok (.putfield 81, 3) := by decide +kernel
theorem d_C_putBytes_43 : decode prog_1_method_47_code 43 = .ok (.iinc 2 (-8), 3) := by decide +kernel
theorem d_C_putBytes_46 : decode prog_1_method_47_code 46 = .ok (.goto (-43), 3) := by decide +kernel
theorem d_C_putBytes_49 : decode prog_1_method_47_code 49 = .ok (.return_, 1) := by decide +kernel
theorem d_C_feed_0 : decode prog_1_method_2_code 0 = .ok (.aload_n 0, 1) := by decide +kernel
theorem d_C_feed_1 : decode prog_1_method_2_code 1 = .ok (.getfield 81, 3) := by decide +kernel
theorem d_C_feed_4 : decode prog_1_method_2_code 4 = .ok (.sipush 380, 3) := by decide +kernel
theorem d_C_feed_7 : decode prog_1_method_2_code 7 = .ok (.if_icmp .le 5, 3) := by decide +kernel
theorem d_C_feed_12 : decode prog_1_method_2_code 12 = .ok (.aload_n 0, 1) := by decide +kernel
theorem d_C_feed_13 : decode prog_1_method_2_code 13 = .ok (.iload_n 1, 1) := by decide +kernel
theorem d_C_feed_14 : decode prog_1_method_2_code 14 = .ok (.invokevirtual 85, 3) := by decide +kernel
theorem d_C_feed_17 : decode prog_1_method_2_code 17 = .ok (.aload_n 0, 1) := by decide +kernel
theorem d_C_feed_18 : decode prog_1_method_2_code 18 = .ok (.iload_n 2, 1) := by decide +kernel
theorem d_C_feed_19 : decode prog_1_method_2_code 19 = .ok (.invokevirtual 85, 3) := by decide +kernel
theorem d_C_feed_22 : decode prog_1_method_2_code 22 = .ok (.aload_n 0, 1) := by decide +kernel
theorem d_C_feed_23 : decode prog_1_method_2_code 23 = .ok (.iload_n 3, 1) := by decide +kernel
theorem d_C_feed_24 : decode prog_1_method_2_code 24 = .ok (.invokevirtual 85, 3) := by decide +kernel
theorem d_C_feed_27 : decode prog_1_method_2_code 27 = .ok (.aload_n 0, 1) := by decide +kernel
theorem d_C_feed_28 : decode prog_1_method_2_code 28 = .ok (.iload 4, 2) := by decide +kernel
theorem d_C_feed_30 : decode prog_1_method_2_code 30 = .ok (.invokevirtual 85, 3) := by decide +kernel
theorem d_C_feed_33 : decode prog_1_method_2_code 33 = .ok (.aload_n 0, 1) := by decide +kernel
theorem d_C_feed_34 : decode prog_1_method_2_code 34 = .ok (.iload 5, 2) := by decide +kernel
theorem d_C_feed_36 : decode prog_1_method_2_code 36 = .ok (.invokevirtual 85, 3) := by decide +kernel
theorem d_C_feed_39 : decode prog_1_method_2_code 39 = .ok (.aload_n 0, 1) := by decide +kernel
theorem d_C_feed_40 : decode prog_1_method_2_code 40 = .ok (.getfield 81, 3) := by decide +kernel
theorem d_C_feed_43 : decode prog_1_method_2_code 43 = .ok (.ireturn, 1) := by decide +kernel
theorem d_C_feed_10 : decode prog_1_method_2_code 10 = .ok (.iconst (-1), 1) := by decide +kernel
theorem d_C_feed_11 : decode prog_1_method_2_code 11 = .ok (.ireturn, 1) := by decide +kernel
theorem d_H_clear_0 : decode prog_6_method_2_code 0 = .ok (.aload_n 0, 1) := by decide +kernel
theorem d_H_clear_1 : decode prog_6_method_2_code 1 = .ok (.iconst 0, 1) := by decide +kernel
theorem d_H_clear_2 : decode prog_6_method_2_code 2 = .ok (.putfield 40, 3) := by decide +kernel
theorem d_H_clear_5 : decode prog_6_method_2_code 5 = .ok (.aload_n 0, 1) := by decide +kernel
theorem d_H_clear_6 : decode prog_6_method_2_code 6 = .ok (.iconst 0, 1) := by decide +kernel
theorem d_H_clear_7 : decode prog_6_method_2_code 7 = .ok (.putfield 44, 3) := by decide +kernel
theorem d_H_clear_10 : decode prog_6_method_2_code 10 = .ok (.aload_n 0, 1) := by decide +kernel
theorem d_H_clear_11 : decode prog_6_method_2_code 11 = .ok (.iconst 0, 1) := by decide +kernel
theorem d_H_clear_12 : decode prog_6_method_2_code 12 = .ok (.putfield 47, 3) := by decide +kernel
theorem d_H_clear_15 : decode prog_6_method_2_code 15 = .ok (.aload_n 0, 1) := by decide +kernel
theorem d_H_clear_16 : decode prog_6_method_2_code 16 = .ok (.iconst 0, 1) := by decide +kernel
theorem d_H_clear_17 : decode prog_6_method_2_code 17 = .ok (.putfield 50, 3) := by decide +kernel
theorem d_H_clear_20 : decode prog_6_method_2_code 20 = .ok (.aload_n 0, 1) := by decide +kernel
theorem d_H_clear_21 : decode prog_6_method_2_code 21 = .ok (.iconst 0, 1) := by decide +kernel
theorem d_H_clear_22 : decode prog_6_method_2_code 22 = .ok (.putfield 53, 3) := by decide +kernel
theorem d_H_clear_25 : decode prog_6_method_2_code 25 = .ok (.return_, 1) := by decide +kernel
theorem d_S_isDigit_0 : decode prog_10_method_6_code 0 = .ok (.iload_n 0, 1) := by decide +kernel
theorem d_S_isDigit_1 : decode prog_10_method_6_code 1 = .ok (.bipush 48, 2) := by decide +kernel
theorem d_S_isDigit_3 : decode prog_10_method_6_code 3 = .ok (.if_icmp .lt 13, 3) := by decide +kernel
theorem d_S_isDigit_16 : decode prog_10_method_6_code 16 = .ok (.iconst 0, 1) := by decide +kernel
theorem d_S_isDigit_17 : decode prog_10_method_6_code 17 = .ok (.ireturn, 1) := by decide +kernel
theorem d_S_isDigit_6 : decode prog_10_method_6_code 6 = .ok (.iload_n 0, 1) := by decide +kernel
theorem d_S_isDigit_7 : decode prog_10_method_6_code 7 = .ok (.bipush 57, 2) := by decide +kernel
theorem d_S_isDigit_9 : decode prog_10_method_6_code 9 = .ok (.if_icmp .gt 7, 3) := by decide +kernel
theorem d_S_isDigit_12 : decode prog_10_method_6_code 12 = .ok (.iconst 1, 1) := by decide +kernel
theorem d_S_isDigit_13 : decode prog_10_method_6_code 13 = .ok (.goto 4, 3) := by decide +kernel
theorem d_S_isOneSign_0 : decode prog_10_method_8_code 0 = .ok (.iload_n 0, 1) := by decide +kernel
theorem d_S_isOneSign_1 : decode prog_10_method_8_code 1 = .ok (.bipush 60, 2) := by decide +kernel
theorem d_S_isOneSign_3 : decode prog_10_method_8_code 3 = .ok (.if_icmp .eq 9, 3) := by decide +kernel
theorem d_S_isOneSign_12 : decode prog_10_method_8_code 12 = .ok (.iload_n 1, 1) := by decide +kernel
theorem d_S_isOneSign_13 : decode prog_10_method_8_code 13 = .ok (.bipush 61, 2) := by decide +kernel
theorem d_S_isOneSign_15 : decode prog_10_method_8_code 15 = .ok (.if_icmp .eq 15, 3) := by decide +kernel
theorem d_S_isOneSign_30 : decode prog_10_method_8_code 30 = .ok (.iconst 1, 1) := by decide +kernel
theorem d_S_isOneSign_31 : decode prog_10_method_8_code 31 = .ok (.goto 4, 3) := by decide +kernel
theorem d_S_isOneSign_35 : decode prog_10_method_8_code 35 = .ok (.ireturn, 1) := by decide +kernel
theorem d_S_isOneSign_18 : decode prog_10_method_8_code 18 = .ok (.iload_n 0, 1) := by decide +kernel
theorem d_S_isOneSign_19 : decode prog_10_method_8_code 19 = .ok (.bipush 60, 2) := by decide +kernel
theorem d_S_isOneSign_21 : decode prog_10_method_8_code 21 = .ok (.if_icmp .ne 13, 3) := by decide +kernel
theorem d_S_isOneSign_34 : decode prog_10_method_8_code 34 = .ok (.iconst 0, 1) := by decide +kernel
theorem d_S_isOneSign_24 : decode prog_10_method_8_code 24 = .ok (.iload_n 1, 1) := by decide +kernel
theorem d_S_isOneSign_25 : decode prog_10_method_8_code 25 = .ok (.bipush 62, 2) := by decide +kernel
theorem d_S_isOneSign_27 : decode prog_10_method_8_code 27 = .ok (.if_icmp .ne 7, 3) := by decide +kernel
theorem d_S_isOneSign_6 : decode prog_10_method_8_code 6 = .ok (.iload_n 0, 1) := by decide +kernel
theorem d_S_isOneSign_7 : decode prog_10_method_8_code 7 = .ok (.bipush 62, 2) := by decide +kernel
theorem d_S_isOneSign_9 : decode prog_10_method_8_code 9 = .ok (.if_icmp .ne 9, 3) := by decide +kernel
theorem d_S_isSmallLetter_0 : decode prog_10_method_7_code 0 = .ok (.iload_n 0, 1) := by decide +kernel
theorem d_S_isSmallLetter_1 : decode prog_10_method_7_code 1 = .ok (.bipush 97, 2) := by decide +kernel
theorem d_S_isSmallLetter_3 : decode prog_10_method_7_code 3 = .ok (.if_icmp .lt 13, 3) := by decide +kernel
theorem d_S_isSmallLetter_16 : decode prog_10_method_7_code 16 = .ok (.iconst 0, 1) := by decide +kernel
theorem d_S_isSmallLetter_17 : decode prog_10_method_7_code 17 = .ok (.ireturn, 1) := by decide +kernel
theorem d_S_isSmallLetter_6 : decode prog_10_method_7_code 6 = .ok (.iload_n 0, 1) := by decide +kernel
theorem d_S_isSmallLetter_7 : decode prog_10_method_7_code 7 = .ok (.bipush 122, 2) := by decide +kernel
theorem d_S_isSmallLetter_9 : decode prog_10_method_7_code 9 = .ok (.if_icmp .gt 7, 3) := by decide +kernel
theorem d_S_isSmallLetter_12 : decode prog_10_method_7_code 12 = .ok (.iconst 1, 1) := by decide +kernel
theorem d_S_isSmallLetter_13 : decode prog_10_method_7_code 13 = .ok (.goto 4, 3) := by decide +kernel
theorem d_S_endOf_0 : decode prog_10_method_4_code 0 = .ok (.iload_n 1, 1) := by decide +kernel
theorem d_S_endOf_1 : decode prog_10_method_4_code 1 = .ok (.iconst 1, 1) := by decide +kernel
theorem d_S_endOf_2 : decode prog_10_method_4_code 2 = .ok (.iadd, 1) := by decide +kernel
theorem d_S_endOf_3 : decode prog_10_method_4_code 3 = .ok (.istore_n 2, 1) := by decide +kernel
theorem d_S_endOf_4 : decode prog_10_method_4_code 4 = .ok (.aload_n 0, 1) := by decide +kernel
theorem d_S_endOf_5 : decode prog_10_method_4_code 5 = .ok (.getfield 24, 3) := by decide +kernel
theorem d_S_endOf_8 : decode prog_10_method_4_code 8 = .ok (.iload_n 1, 1) := by decide +kernel
theorem d_S_endOf_9 : decode prog_10_method_4_code 9 = .ok (.iaload, 1) := by decide +kernel
theorem d_S_endOf_10 : decode prog_10_method_4_code 10 = .ok (.invokestatic 69, 3) := by decide +kernel
theorem d_S_endOf_13 : decode prog_10_method_4_code 13 = .ok (.ifCond .eq 29, 3) := by decide +kernel
theorem d_S_endOf_42 : decode prog_10_method_4_code 42 = .ok (.aload_n 0, 1) := by decide +kernel
theorem d_S_endOf_43 : decode prog_10_method_4_code 43 = .ok (.getfield 24, 3) := by decide +kernel
theorem d_S_endOf_46 : decode prog_10_method_4_code 46 = .ok (.iload_n 1, 1) := by decide +kernel
theorem d_S_endOf_47 : decode prog_10_method_4_code 47 = .ok (.iaload, 1) := by decide +kernel
theorem d_S_endOf_48 : decode prog_10_method_4_code 48 = .ok (.invokestatic 40, 3) := by decide +kernel
theorem d_S_endOf_51 : decode prog_10_method_4_code 51 = .ok (.ifCond .eq 29, 3) := by decide +kernel
theorem d_S_endOf_80 : decode prog_10_method_4_code 80 = .ok (.iload_n 2, 1) := by decide +kernel
theorem d_S_endOf_81 : decode prog_10_method_4_code 81 = .ok (.aload_n 0, 1) := by decide +kernel
theorem d_S_endOf_82 : decode prog_10_method_4_code 82 = .ok (.getfield 33, 3) := by decide +kernel
theorem d_S_endOf_85 : decode prog_10_method_4_code 85 = .ok (.if_icmp .ge 24, 3) := by decide +kernel
theorem d_S_endOf_109 : decode prog_10_method_4_code 109 = .ok (.iload_n 2, 1) := by decide +kernel
theorem d_S_endOf_110 : decode prog_10_method_4_code 110 = .ok (.ireturn, 1) := by decide +kernel
theorem d_S_endOf_88 : decode prog_10_method_4_code 88 = .ok (.aload_n 0, 1) := by decide +kernel
theorem d_S_endOf_89 : decode prog_10_method_4_code 89 = .ok (.getfield 24, 3) := by decide +kernel
theorem d_S_endOf_92 : decode prog_10_method_4_code 92 = .ok (.iload_n 1, 1) := by decide +kernel
theorem d_S_endOf_93 : decode prog_10_method_4_code 93 = .ok (.iaload, 1) := by decide +kernel
theorem d_S_endOf_94 : decode prog_10_method_4_code 94 = .ok (.aload_n 0, 1) := by decide +kernel
theorem d_S_endOf_95 : decode prog_10_method_4_code 95 = .ok (.getfield 24, 3) := by decide +kernel
theorem d_S_endOf_98 : decode prog_10_method_4_code 98 = .ok (.iload_n 2, 1) := by decide +kernel
theorem d_S_endOf_99 : decode prog_10_method_4_code 99 = .ok (.iaload, 1) := by decide +kernel
theorem d_S_endOf_100 : decode prog_10_method_4_code 100 = .ok (.invokestatic 72, 3) := by decide +kernel
theorem d_S_endOf_103 : decode prog_10_method_4_code 103 = .ok (.ifCond .eq 6, 3) := by decide +kernel
theorem d_S_endOf_106 : decode prog_10_method_4_code 106 = .ok (.iinc 2 1, 3) := by decide +kernel
theorem d_S_endOf_54 : decode prog_10_method_4_code 54 = .ok (.iload_n 2, 1) := by decide +kernel
theorem d_S_endOf_55 : decode prog_10_method_4_code 55 = .ok (.aload_n 0, 1) := by decide +kernel
theorem d_S_endOf_56 : decode prog_10_method_4_code 56 = .ok (.getfield 33, 3) := by decide +kernel
theorem d_S_endOf_59 : decode prog_10_method_4_code 59 = .ok (.if_icmp .ge 50, 3) := by decide +kernel
theorem d_S_endOf_62 : decode prog_10_method_4_code 62 = .ok (.aload_n 0, 1) := by decide +kernel
theorem d_S_endOf_63 : decode prog_10_method_4_code 63 = .ok (.getfield 24, 3) := by decide +kernel
theorem d_S_endOf_66 : decode prog_10_method_4_code 66 = .ok (.iload_n 2, 1) := by decide +kernel
theorem d_S_endOf_67 : decode prog_10_method_4_code 67 = .ok (.iaload, 1) := by decide +kernel
theorem d_S_endOf_68 : decode prog_10_method_4_code 68 = .ok (.invokestatic 40, 3) := by decide +kernel
theorem d_S_endOf_71 : decode prog_10_method_4_code 71 = .ok (.ifCond .eq 38, 3) := by decide +kernel
theorem d_S_endOf_74 : decode prog_10_method_4_code 74 = .ok (.iinc 2 1, 3) := by decide +kernel
theorem d_S_endOf_77 : decode prog_10_method_4_code 77 = .ok (.goto (-23), 3) := by decide +kernel
theorem d_S_endOf_16 : decode prog_10_method_4_code 16 = .ok (.iload_n 2, 1) := by decide +kernel
theorem d_S_endOf_17 : decode prog_10_method_4_code 17 = .ok (.aload_n 0, 1) := by decide +kernel
theorem d_S_endOf_18 : decode prog_10_method_4_code 18 = .ok (.getfield 33, 3) := by decide +kernel
theorem d_S_endOf_21 : decode prog_10_method_4_code 21 = .ok (.if_icmp .ge 88, 3) := by decide +kernel
theorem d_S_endOf_24 : decode prog_10_method_4_code 24 = .ok (.aload_n 0, 1) := by decide +kernel
theorem d_S_endOf_25 : decode prog_10_method_4_code 25 = .ok (.getfield 24, 3) := by decide +kernel
theorem d_S_endOf_28 : decode prog_10_method_4_code 28 = .ok (.iload_n 2, 1) := by decide +kernel
theorem d_S_endOf_29 : decode prog_10_method_4_code 29 = .ok (.iaload, 1) := by decide +kernel
theorem d_S_endOf_30 : decode prog_10_method_4_code 30 = .ok (.invokestatic 69, 3) := by decide +kernel
theorem d_S_endOf_33 : decode prog_10_method_4_code 33 = .ok (.ifCond .eq 76, 3) := by decide +kernel
theorem d_S_endOf_36 : decode prog_10_method_4_code 36 = .ok (.iinc 2 1, 3) := by decide +kernel
theorem d_S_endOf_39 : decode prog_10_method_4_code 39 = .ok (.goto (-23), 3) := by decide +kernel
theorem d_S_put_0 : decode prog_10_method_3_code 0 = .ok (.aload_n 0, 1) := by decide +kernel
theorem d_S_put_1 : decode prog_10_method_3_code 1 = .ok (.getfield 37, 3) := by decide +kernel
theorem d_S_put_4 : decode prog_10_method_3_code 4 = .ok (.aload_n 0, 1) := by decide +kernel
theorem d_S_put_5 : decode prog_10_method_3_code 5 = .ok (.getfield 11, 3) := by decide +kernel
theorem d_S_put_8 : decode prog_10_method_3_code 8 = .ok (.arraylength, 1) := by decide +kernel
theorem d_S_put_9 : decode prog_10_method_3_code 9 = .ok (.if_icmp .ge 43, 3) := by decide +kernel
theorem d_S_put_52 : decode prog_10_method_3_code 52 = .ok (.return_, 1) := by decide +kernel
theorem d_S_put_12 : decode prog_10_method_3_code 12 = .ok (.aload_n 0, 1) := by decide +kernel
theorem d_S_put_13 : decode prog_10_method_3_code 13 = .ok (.getfield 11, 3) := by decide +kernel
theorem d_S_put_16 : decode prog_10_method_3_code 16 = .ok (.aload_n 0, 1) := by decide +kernel
theorem d_S_put_17 : decode prog_10_method_3_code 17 = .ok (.getfield 37, 3) := by decide +kernel
theorem d_S_put_20 : decode prog_10_method_3_code 20 = .ok (.aload_n 1, 1) := by decide +kernel
theorem d_S_put_21 : decode prog_10_method_3_code 21 = .ok (.aastore, 1) := by decide +kernel
theorem d_S_put_22 : decode prog_10_method_3_code 22 = .ok (.aload_n 0, 1) := by decide +kernel
theorem d_S_put_23 : decode prog_10_method_3_code 23 = .ok (.getfield 17, 3) := by decide +kernel
theorem d_S_put_26 : decode prog_10_method_3_code 26 = .ok (.aload_n 0, 1) := by decide +kernel
theorem d_S_put_27 : decode prog_10_method_3_code 27 = .ok (.getfield 37, 3) := by decide +kernel
theorem d_S_put_30 : decode prog_10_method_3_code 30 = .ok (.iload_n 2, 1) := by decide +kernel
theorem d_S_put_31 : decode prog_10_method_3_code 31 = .ok (.iastore, 1) := by decide +kernel
theorem d_S_put_32 : decode prog_10_method_3_code 32 = .ok (.aload_n 0, 1) := by decide +kernel
theorem d_S_put_33 : decode prog_10_method_3_code 33 = .ok (.getfield 21, 3) := by decide +kernel
theorem d_S_put_36 : decode prog_10_method_3_code 36 = .ok (.aload_n 0, 1) := by decide +kernel
theorem d_S_put_37 : decode prog_10_method_3_code 37 = .ok (.getfield 37, 3) := by decide +kernel
theorem d_S_put_40 : decode prog_10_method_3_code 40 = .ok (.iload_n 3, 1) := by decide +kernel
theorem d_S_put_41 : decode prog_10_method_3_code 41 = .ok (.iastore, 1) := by decide +kernel
theorem d_S_put_42 : decode prog_10_method_3_code 42 = .ok (.aload_n 0, 1) := by decide +kernel
theorem d_S_put_43 : decode prog_10_method_3_code 43 = .ok (.dup, 1) := by decide +kernel
theorem d_S_put_44 : decode prog_10_method_3_code 44 = .ok (.getfield 37, 3) := by decide +kernel
theorem d_S_put_47 : decode prog_10_method_3_code 47 = .ok (.iconst 1, 1) := by decide +kernel
theorem d_S_put_48 : decode prog_10_method_3_code 48 = .ok (.iadd, 1) := by decide +kernel
theorem d_S_put_49 : decode prog_10_method_3_code 49 = .ok (.putfield 37, 3) := by decide +kernel
theorem d_S_spells_0 : decode prog_10_method_10_code 0 = .ok (.aload_n 1, 1) := by decide +kernel
theorem d_S_spells_1 : decode prog_10_method_10_code 1 = .ok (.invokevirtual 90, 3) := by decide +kernel
theorem d_S_spells_4 : decode prog_10_method_10_code 4 = .ok (.iload_n 3, 1) := by decide +kernel
theorem d_S_spells_5 : decode prog_10_method_10_code 5 = .ok (.iload_n 2, 1) := by decide +kernel
theorem d_S_spells_6 : decode prog_10_method_10_code 6 = .ok (.isub, 1) := by decide +kernel
theorem d_S_spells_7 : decode prog_10_method_10_code 7 = .ok (.if_icmp .eq 5, 3) := by decide +kernel
theorem d_S_spells_12 : decode prog_10_method_10_code 12 = .ok (.iload_n 2, 1) := by decide +kernel
theorem d_S_spells_13 : decode prog_10_method_10_code 13 = .ok (.istore 4, 2) := by decide +kernel
theorem d_S_spells_15 : decode prog_10_method_10_code 15 = .ok (.iload 4, 2) := by decide +kernel
theorem d_S_spells_17 : decode prog_10_method_10_code 17 = .ok (.iload_n 3, 1) := by decide +kernel
theorem d_S_spells_18 : decode prog_10_method_10_code 18 = .ok (.if_icmp .ge 29, 3) := by decide +kernel
theorem d_S_spells_21 : decode prog_10_method_10_code 21 = .ok (.aload_n 1, 1) := by decide +kernel
theorem d_S_spells_22 : decode prog_10_method_10_code 22 = .ok (.iload 4, 2) := by decide +kernel
theorem d_S_spells_24 : decode prog_10_method_10_code 24 = .ok (.iload_n 2, 1) := by decide +kernel
theorem d_S_spells_25 : decode prog_10_method_10_code 25 = .ok (.isub, 1) := by decide +kernel
theorem d_S_spells_26 : decode prog_10_method_10_code 26 = .ok (.invokevirtual 95, 3) := by decide +kernel
theorem d_S_spells_29 : decode prog_10_method_10_code 29 = .ok (.aload_n 0, 1) := by decide +kernel
theorem d_S_spells_30 : decode prog_10_method_10_code 30 = .ok (.getfield 24, 3) := by decide +kernel
theorem d_S_spells_33 : decode prog_10_method_10_code 33 = .ok (.iload 4, 2) := by decide +kernel
theorem d_S_spells_35 : decode prog_10_method_10_code 35 = .ok (.iaload, 1) := by decide +kernel
theorem d_S_spells_36 : decode prog_10_method_10_code 36 = .ok (.if_icmp .eq 5, 3) := by decide +kernel
theorem d_S_spells_41 : decode prog_10_method_10_code 41 = .ok (.iinc 4 1, 3) := by decide +kernel
theorem d_S_spells_44 : decode prog_10_method_10_code 44 = .ok (.goto (-29), 3) := by decide +kernel
theorem d_S_spells_39 : decode prog_10_method_10_code 39 = .ok (.iconst 0, 1) := by decide +kernel
theorem d_S_spells_40 : decode prog_10_method_10_code 40 = .ok (.ireturn, 1) := by decide +kernel
theorem d_S_spells_47 : decode prog_10_method_10_code 47 = .ok (.iconst 1, 1) := by decide +kernel
theorem d_S_spells_48 : decode prog_10_method_10_code 48 = .ok (.ireturn, 1) := by decide +kernel
theorem d_S_spells_10 : decode prog_10_method_10_code 10 = .ok (.iconst 0, 1) := by decide +kernel
theorem d_S_spells_11 : decode prog_10_method_10_code 11 = .ok (.ireturn, 1) := by decide +kernel
theorem d_S_spelled_0 : decode prog_10_method_9_code 0 = .ok (.getstatic 76, 3) := by decide +kernel
theorem d_S_spelled_3 : decode prog_10_method_9_code 3 = .ok (.astore_n 3, 1) := by decide +kernel
theorem d_S_spelled_4 : decode prog_10_method_9_code 4 = .ok (.aload_n 3, 1) := by decide +kernel
theorem d_S_spelled_5 : decode prog_10_method_9_code 5 = .ok (.arraylength, 1) := by decide +kernel
theorem d_S_spelled_6 : decode prog_10_method_9_code 6 = .ok (.istore 4, 2) := by decide +kernel
theorem d_S_spelled_8 : decode prog_10_method_9_code 8 = .ok (.iconst 0, 1) := by decide +kernel
theorem d_S_spelled_9 : decode prog_10_method_9_code 9 = .ok (.istore 5, 2) := by decide +kernel
theorem d_S_spelled_11 : decode prog_10_method_9_code 11 = .ok (.iload 5, 2) := by decide +kernel
theorem d_S_spelled_13 : decode prog_10_method_9_code 13 = .ok (.iload 4, 2) := by decide +kernel
theorem d_S_spelled_15 : decode prog_10_method_9_code 15 = .ok (.if_icmp .ge 32, 3) := by decide +kernel
theorem d_S_spelled_18 : decode prog_10_method_9_code 18 = .ok (.aload_n 3, 1) := by decide +kernel
theorem d_S_spelled_19 : decode prog_10_method_9_code 19 = .ok (.iload 5, 2) := by decide +kernel
theorem d_S_spelled_21 : decode prog_10_method_9_code 21 = .ok (.aaload, 1) := by decide +kernel
theorem d_S_spelled_22 : decode prog_10_method_9_code 22 = .ok (.astore 6, 2) := by decide +kernel
theorem d_S_spelled_24 : decode prog_10_method_9_code 24 = .ok (.aload_n 0, 1) := by decide +kernel
theorem d_S_spelled_25 : decode prog_10_method_9_code 25 = .ok (.aload 6, 2) := by decide +kernel
theorem d_S_spelled_27 : decode prog_10_method_9_code 27 = .ok (.getfield 79, 3) := by decide +kernel
theorem d_S_spelled_30 : decode prog_10_method_9_code 30 = .ok (.iload_n 1, 1) := by decide +kernel
theorem d_S_spelled_31 : decode prog_10_method_9_code 31 = .ok (.iload_n 2, 1) := by decide +kernel
theorem d_S_spelled_32 : decode prog_10_method_9_code 32 = .ok (.invokevirtual 83, 3) := by decide +kernel
theorem d_S_spelled_35 : decode prog_10_method_9_code 35 = .ok (.ifCond .eq 6, 3) := by decide +kernel
theorem d_S_spelled_41 : decode prog_10_method_9_code 41 = .ok (.iinc 5 1, 3) := by decide +kernel
theorem d_S_spelled_44 : decode prog_10_method_9_code 44 = .ok (.goto (-33), 3) := by decide +kernel
theorem d_S_spelled_38 : decode prog_10_method_9_code 38 = .ok (.aload 6, 2) := by decide +kernel
theorem d_S_spelled_40 : decode prog_10_method_9_code 40 = .ok (.areturn, 1) := by decide +kernel
theorem d_S_spelled_47 : decode prog_10_method_9_code 47 = .ok (.getstatic 87, 3) := by decide +kernel
theorem d_S_spelled_50 : decode prog_10_method_9_code 50 = .ok (.areturn, 1) := by decide +kernel
theorem d_S_worthOf_0 : decode prog_10_method_5_code 0 = .ok (.iconst 0, 1) := by decide +kernel
theorem d_S_worthOf_1 : decode prog_10_method_5_code 1 = .ok (.istore_n 2, 1) := by decide +kernel
theorem d_S_worthOf_2 : decode prog_10_method_5_code 2 = .ok (.iload_n 1, 1) := by decide +kernel
theorem d_S_worthOf_3 : decode prog_10_method_5_code 3 = .ok (.istore_n 3, 1) := by decide +kernel
theorem d_S_worthOf_4 : decode prog_10_method_5_code 4 = .ok (.iload_n 3, 1) := by decide +kernel
theorem d_S_worthOf_5 : decode prog_10_method_5_code 5 = .ok (.aload_n 0, 1) := by decide +kernel
theorem d_S_worthOf_6 : decode prog_10_method_5_code 6 = .ok (.getfield 33, 3) := by decide +kernel
theorem d_S_worthOf_9 : decode prog_10_method_5_code 9 = .ok (.if_icmp .ge 42, 3) := by decide +kernel
theorem d_S_worthOf_12 : decode prog_10_method_5_code 12 = .ok (.aload_n 0, 1) := by decide +kernel
theorem d_S_worthOf_13 : decode prog_10_method_5_code 13 = .ok (.getfield 24, 3) := by decide +kernel
theorem d_S_worthOf_16 : decode prog_10_method_5_code 16 = .ok (.iload_n 3, 1) := by decide +kernel
theorem d_S_worthOf_17 : decode prog_10_method_5_code 17 = .ok (.iaload, 1) := by decide +kernel
theorem d_S_worthOf_18 : decode prog_10_method_5_code 18 = .ok (.invokestatic 40, 3) := by decide +kernel
theorem d_S_worthOf_21 : decode prog_10_method_5_code 21 = .ok (.ifCond .eq 30, 3) := by decide +kernel
theorem d_S_worthOf_24 : decode prog_10_method_5_code 24 = .ok (.sipush 1000, 3) := by decide +kernel
theorem d_S_worthOf_27 : decode prog_10_method_5_code 27 = .ok (.iload_n 2, 1) := by decide +kernel
theorem d_S_worthOf_28 : decode prog_10_method_5_code 28 = .ok (.bipush 10, 2) := by decide +kernel
theorem d_S_worthOf_30 : decode prog_10_method_5_code 30 = .ok (.imul, 1) := by decide +kernel
theorem d_S_worthOf_31 : decode prog_10_method_5_code 31 = .ok (.aload_n 0, 1) := by decide +kernel
theorem d_S_worthOf_32 : decode prog_10_method_5_code 32 = .ok (.getfield 24, 3) := by decide +kernel
theorem d_S_worthOf_35 : decode prog_10_method_5_code 35 = .ok (.iload_n 3, 1) := by decide +kernel
theorem d_S_worthOf_36 : decode prog_10_method_5_code 36 = .ok (.iaload, 1) := by decide +kernel
theorem d_S_worthOf_37 : decode prog_10_method_5_code 37 = .ok (.iadd, 1) := by decide +kernel
theorem d_S_worthOf_38 : decode prog_10_method_5_code 38 = .ok (.bipush 48, 2) := by decide +kernel
theorem d_S_worthOf_40 : decode prog_10_method_5_code 40 = .ok (.isub, 1) := by decide +kernel
theorem d_S_worthOf_41 : decode prog_10_method_5_code 41 = .ok (.invokestatic 27, 3) := by decide +kernel
theorem d_S_worthOf_44 : decode prog_10_method_5_code 44 = .ok (.istore_n 2, 1) := by decide +kernel
theorem d_S_worthOf_45 : decode prog_10_method_5_code 45 = .ok (.iinc 3 1, 3) := by decide +kernel
theorem d_S_worthOf_48 : decode prog_10_method_5_code 48 = .ok (.goto (-44), 3) := by decide +kernel
theorem d_S_worthOf_51 : decode prog_10_method_5_code 51 = .ok (.iload_n 2, 1) := by decide +kernel
theorem d_S_worthOf_52 : decode prog_10_method_5_code 52 = .ok (.ireturn, 1) := by decide +kernel
theorem d_S_cut_0 : decode prog_10_method_2_code 0 = .ok (.aload_n 0, 1) := by decide +kernel
theorem d_S_cut_1 : decode prog_10_method_2_code 1 = .ok (.iload_n 1, 1) := by decide +kernel
theorem d_S_cut_2 : decode prog_10_method_2_code 2 = .ok (.aload_n 0, 1) := by decide +kernel
theorem d_S_cut_3 : decode prog_10_method_2_code 3 = .ok (.getfield 24, 3) := by decide +kernel
theorem d_S_cut_6 : decode prog_10_method_2_code 6 = .ok (.arraylength, 1) := by decide +kernel
theorem d_S_cut_7 : decode prog_10_method_2_code 7 = .ok (.invokestatic 27, 3) := by decide +kernel
theorem d_S_cut_10 : decode prog_10_method_2_code 10 = .ok (.putfield 33, 3) := by decide +kernel
theorem d_S_cut_13 : decode prog_10_method_2_code 13 = .ok (.aload_n 0, 1) := by decide +kernel
theorem d_S_cut_14 : decode prog_10_method_2_code 14 = .ok (.iconst 0, 1) := by decide +kernel
theorem d_S_cut_15 : decode prog_10_method_2_code 15 = .ok (.putfield 37, 3) := by decide +kernel
theorem d_S_cut_18 : decode prog_10_method_2_code 18 = .ok (.iconst 0, 1) := by decide +kernel
theorem d_S_cut_19 : decode prog_10_method_2_code 19 = .ok (.istore_n 2, 1) := by decide +kernel
theorem d_S_cut_20 : decode prog_10_method_2_code 20 = .ok (.iload_n 2, 1) := by decide +kernel
theorem d_S_cut_21 : decode prog_10_method_2_code 21 = .ok (.aload_n 0, 1) := by decide +kernel
theorem d_S_cut_22 : decode prog_10_method_2_code 22 = .ok (.getfield 33, 3) := by decide +kernel
theorem d_S_cut_25 : decode prog_10_method_2_code 25 = .ok (.if_icmp .ge 84, 3) := by decide +kernel
theorem d_S_cut_28 : decode prog_10_method_2_code 28 = .ok (.aload_n 0, 1) := by decide +kernel
theorem d_S_cut_29 : decode prog_10_method_2_code 29 = .ok (.getfield 24, 3) := by decide +kernel
theorem d_S_cut_32 : decode prog_10_method_2_code 32 = .ok (.iload_n 2, 1) := by decide +kernel
theorem d_S_cut_33 : decode prog_10_method_2_code 33 = .ok (.iaload, 1) := by decide +kernel
theorem d_S_cut_34 : decode prog_10_method_2_code 34 = .ok (.invokestatic 40, 3) := by decide +kernel
theorem d_S_cut_37 : decode prog_10_method_2_code 37 = .ok (.ifCond .eq 19, 3) := by decide +kernel
theorem d_S_cut_56 : decode prog_10_method_2_code 56 = .ok (.aload_n 0, 1) := by decide +kernel
theorem d_S_cut_57 : decode prog_10_method_2_code 57 = .ok (.getfield 24, 3) := by decide +kernel
theorem d_S_cut_60 : decode prog_10_method_2_code 60 = .ok (.iload_n 2, 1) := by decide +kernel
theorem d_S_cut_61 : decode prog_10_method_2_code 61 = .ok (.iaload, 1) := by decide +kernel
theorem d_S_cut_62 : decode prog_10_method_2_code 62 = .ok (.bipush 10, 2) := by decide +kernel
theorem d_S_cut_64 : decode prog_10_method_2_code 64 = .ok (.if_icmp .eq 30, 3) := by decide +kernel
theorem d_S_cut_94 : decode prog_10_method_2_code 94 = .ok (.iload_n 2, 1) := by decide +kernel
theorem d_S_cut_95 : decode prog_10_method_2_code 95 = .ok (.iconst 1, 1) := by decide +kernel
theorem d_S_cut_96 : decode prog_10_method_2_code 96 = .ok (.iadd, 1) := by decide +kernel
theorem d_S_cut_97 : decode prog_10_method_2_code 97 = .ok (.aload_n 0, 1) := by decide +kernel
theorem d_S_cut_98 : decode prog_10_method_2_code 98 = .ok (.iload_n 2, 1) := by decide +kernel
theorem d_S_cut_99 : decode prog_10_method_2_code 99 = .ok (.invokevirtual 56, 3) := by decide +kernel
theorem d_S_cut_102 : decode prog_10_method_2_code 102 = .ok (.invokestatic 63, 3) := by decide +kernel
theorem d_S_cut_105 : decode prog_10_method_2_code 105 = .ok (.istore_n 2, 1) := by decide +kernel
theorem d_S_cut_106 : decode prog_10_method_2_code 106 = .ok (.goto (-86), 3) := by decide +kernel
theorem d_S_cut_67 : decode prog_10_method_2_code 67 = .ok (.aload_n 0, 1) := by decide +kernel
theorem d_S_cut_68 : decode prog_10_method_2_code 68 = .ok (.getfield 24, 3) := by decide +kernel
theorem d_S_cut_71 : decode prog_10_method_2_code 71 = .ok (.iload_n 2, 1) := by decide +kernel
theorem d_S_cut_72 : decode prog_10_method_2_code 72 = .ok (.iaload, 1) := by decide +kernel
theorem d_S_cut_73 : decode prog_10_method_2_code 73 = .ok (.bipush 32, 2) := by decide +kernel
theorem d_S_cut_75 : decode prog_10_method_2_code 75 = .ok (.if_icmp .eq 19, 3) := by decide +kernel
theorem d_S_cut_78 : decode prog_10_method_2_code 78 = .ok (.aload_n 0, 1) := by decide +kernel
theorem d_S_cut_79 : decode prog_10_method_2_code 79 = .ok (.aload_n 0, 1) := by decide +kernel
theorem d_S_cut_80 : decode prog_10_method_2_code 80 = .ok (.iload_n 2, 1) := by decide +kernel
theorem d_S_cut_81 : decode prog_10_method_2_code 81 = .ok (.aload_n 0, 1) := by decide +kernel
theorem d_S_cut_82 : decode prog_10_method_2_code 82 = .ok (.iload_n 2, 1) := by decide +kernel
theorem d_S_cut_83 : decode prog_10_method_2_code 83 = .ok (.invokevirtual 56, 3) := by decide +kernel
theorem d_S_cut_86 : decode prog_10_method_2_code 86 = .ok (.invokevirtual 59, 3) := by decide +kernel
theorem d_S_cut_89 : decode prog_10_method_2_code 89 = .ok (.iload_n 2, 1) := by decide +kernel
theorem d_S_cut_90 : decode prog_10_method_2_code 90 = .ok (.iconst 0, 1) := by decide +kernel
theorem d_S_cut_91 : decode prog_10_method_2_code 91 = .ok (.invokevirtual 52, 3) := by decide +kernel
theorem d_S_cut_40 : decode prog_10_method_2_code 40 = .ok (.aload_n 0, 1) := by decide +kernel
theorem d_S_cut_41 : decode prog_10_method_2_code 41 = .ok (.getstatic 44, 3) := by decide +kernel
theorem d_S_cut_44 : decode prog_10_method_2_code 44 = .ok (.iload_n 2, 1) := by decide +kernel
theorem d_S_cut_45 : decode prog_10_method_2_code 45 = .ok (.aload_n 0, 1) := by decide +kernel
theorem d_S_cut_46 : decode prog_10_method_2_code 46 = .ok (.iload_n 2, 1) := by decide +kernel
theorem d_S_cut_47 : decode prog_10_method_2_code 47 = .ok (.invokevirtual 48, 3) := by decide +kernel
theorem d_S_cut_50 : decode prog_10_method_2_code 50 = .ok (.invokevirtual 52, 3) := by decide +kernel
theorem d_S_cut_53 : decode prog_10_method_2_code 53 = .ok (.goto 41, 3) := by decide +kernel
theorem d_S_cut_109 : decode prog_10_method_2_code 109 = .ok (.aload_n 0, 1) := by decide +kernel
theorem d_S_cut_110 : decode prog_10_method_2_code 110 = .ok (.getstatic 66, 3) := by decide +kernel
theorem d_S_cut_113 : decode prog_10_method_2_code 113 = .ok (.aload_n 0, 1) := by decide +kernel
theorem d_S_cut_114 : decode prog_10_method_2_code 114 = .ok (.getfield 33, 3) := by decide +kernel
theorem d_S_cut_117 : decode prog_10_method_2_code 117 = .ok (.iconst 0, 1) := by decide +kernel
theorem d_S_cut_118 : decode prog_10_method_2_code 118 = .ok (.invokevirtual 52, 3) := by decide +kernel
theorem d_S_cut_121 : decode prog_10_method_2_code 121 = .ok (.return_, 1) := by decide +kernel
theorem d_R_fail_0 : decode prog_11_method_4_code 0 = .ok (.aload_n 0, 1) := by decide +kernel
theorem d_R_fail_1 : decode prog_11_method_4_code 1 = .ok (.iload_n 1, 1) := by decide +kernel
theorem d_R_fail_2 : decode prog_11_method_4_code 2 = .ok (.putfield 54, 3) := by decide +kernel
theorem d_R_fail_5 : decode prog_11_method_4_code 5 = .ok (.aload_n 0, 1) := by decide +kernel
theorem d_R_fail_6 : decode prog_11_method_4_code 6 = .ok (.aload_n 0, 1) := by decide +kernel
theorem d_R_fail_7 : decode prog_11_method_4_code 7 = .ok (.getfield 37, 3) := by decide +kernel
theorem d_R_fail_10 : decode prog_11_method_4_code 10 = .ok (.getfield 92, 3) := by decide +kernel
theorem d_R_fail_13 : decode prog_11_method_4_code 13 = .ok (.aload_n 0, 1) := by decide +kernel
theorem d_R_fail_14 : decode prog_11_method_4_code 14 = .ok (.getfield 81, 3) := by decide +kernel
theorem d_R_fail_17 : decode prog_11_method_4_code 17 = .ok (.iaload, 1) := by decide +kernel
theorem d_R_fail_18 : decode prog_11_method_4_code 18 = .ok (.putfield 20, 3) := by decide +kernel
theorem d_R_fail_21 : decode prog_11_method_4_code 21 = .ok (.return_, 1) := by decide +kernel
theorem d_R_stepTo_0 : decode prog_11_method_3_code 0 = .ok (.iload_n 1, 1) := by decide +kernel
theorem d_R_stepTo_1 : decode prog_11_method_3_code 1 = .ok (.ifCond .lt 57, 3) := by decide +kernel
theorem d_R_stepTo_58 : decode prog_11_method_3_code 58 = .ok (.return_, 1) := by decide +kernel
theorem d_R_stepTo_4 : decode prog_11_method_3_code 4 = .ok (.iload_n 1, 1) := by decide +kernel
theorem d_R_stepTo_5 : decode prog_11_method_3_code 5 = .ok (.aload_n 0, 1) := by decide +kernel
theorem d_R_stepTo_6 : decode prog_11_method_3_code 6 = .ok (.getfield 37, 3) := by decide +kernel
theorem d_R_stepTo_9 : decode prog_11_method_3_code 9 = .ok (.getfield 60, 3) := by decide +kernel
theorem d_R_stepTo_12 : decode prog_11_method_3_code 12 = .ok (.if_icmp .ge 46, 3) := by decide +kernel
theorem d_R_stepTo_15 : decode prog_11_method_3_code 15 = .ok (.aload_n 0, 1) := by decide +kernel
theorem d_R_stepTo_16 : decode prog_11_method_3_code 16 = .ok (.iload_n 1, 1) := by decide +kernel
theorem d_R_stepTo_17 : decode prog_11_method_3_code 17 = .ok (.putfield 81, 3) := by decide +kernel
theorem d_R_stepTo_20 : decode prog_11_method_3_code 20 = .ok (.aload_n 0, 1) := by decide +kernel
theorem d_R_stepTo_21 : decode prog_11_method_3_code 21 = .ok (.getfield 37, 3) := by decide +kernel
theorem d_R_stepTo_24 : decode prog_11_method_3_code 24 = .ok (.getfield 84, 3) := by decide +kernel
theorem d_R_stepTo_27 : decode prog_11_method_3_code 27 = .ok (.iload_n 1, 1) := by decide +kernel
theorem d_R_stepTo_28 : decode prog_11_method_3_code 28 = .ok (.aaload, 1) := by decide +kernel
theorem d_R_stepTo_29 : decode prog_11_method_3_code 29 = .ok (.astore_n 2, 1) := by decide +kernel
theorem d_R_stepTo_30 : decode prog_11_method_3_code 30 = .ok (.aload_n 0, 1) := by decide +kernel
theorem d_R_stepTo_31 : decode prog_11_method_3_code 31 = .ok (.aload_n 2, 1) := by decide +kernel
theorem d_R_stepTo_32 : decode prog_11_method_3_code 32 = .ok (.ifnonnull 9, 3) := by decide +kernel
theorem d_R_stepTo_41 : decode prog_11_method_3_code 41 = .ok (.aload_n 2, 1) := by decide +kernel
theorem d_R_stepTo_42 : decode prog_11_method_3_code 42 = .ok (.putfield 15, 3) := by decide +kernel
theorem d_R_stepTo_45 : decode prog_11_method_3_code 45 = .ok (.aload_n 0, 1) := by decide +kernel
theorem d_R_stepTo_46 : decode prog_11_method_3_code 46 = .ok (.aload_n 0, 1) := by decide +kernel
theorem d_R_stepTo_47 : decode prog_11_method_3_code 47 = .ok (.getfield 37, 3) := by decide +kernel
theorem d_R_stepTo_50 : decode prog_11_method_3_code 50 = .ok (.getfield 86, 3) := by decide +kernel
theorem d_R_stepTo_53 : decode prog_11_method_3_code 53 = .ok (.iload_n 1, 1) := by decide +kernel
theorem d_R_stepTo_54 : decode prog_11_method_3_code 54 = .ok (.iaload, 1) := by decide +kernel
theorem d_R_stepTo_55 : decode prog_11_method_3_code 55 = .ok (.putfield 90, 3) := by decide +kernel
theorem d_R_stepTo_35 : decode prog_11_method_3_code 35 = .ok (.getstatic 9, 3) := by decide +kernel
theorem d_R_stepTo_38 : decode prog_11_method_3_code 38 = .ok (.goto 4, 3) := by decide +kernel
theorem d_H_addHabit_0 : decode prog_6_method_5_code 0 = .ok (.aload_n 0, 1) := by decide +kernel
theorem d_H_addHabit_1 : decode prog_6_method_5_code 1 = .ok (.getfield 47, 3) := by decide +kernel
theorem d_H_addHabit_4 : decode prog_6_method_5_code 4 = .ok (.bipush 8, 2) := by decide +kernel
theorem d_H_addHabit_6 : decode prog_6_method_5_code 6 = .ok (.if_icmp .lt 4, 3) := by decide +kernel
theorem d_H_addHabit_10 : decode prog_6_method_5_code 10 = .ok (.aload_n 0, 1) := by decide +kernel
theorem d_H_addHabit_11 : decode prog_6_method_5_code 11 = .ok (.getfield 17, 3) := by decide +kernel
theorem d_H_addHabit_14 : decode prog_6_method_5_code 14 = .ok (.aload_n 0, 1) := by decide +kernel
theorem d_H_addHabit_15 : decode prog_6_method_5_code 15 = .ok (.getfield 47, 3) := by decide +kernel
theorem d_H_addHabit_18 : decode prog_6_method_5_code 18 = .ok (.iload_n 1, 1) := by decide +kernel
theorem d_H_addHabit_19 : decode prog_6_method_5_code 19 = .ok (.bastore, 1) := by decide +kernel
theorem d_H_addHabit_20 : decode prog_6_method_5_code 20 = .ok (.aload_n 0, 1) := by decide +kernel
theorem d_H_addHabit_21 : decode prog_6_method_5_code 21 = .ok (.getfield 21, 3) := by decide +kernel
theorem d_H_addHabit_24 : decode prog_6_method_5_code 24 = .ok (.aload_n 0, 1) := by decide +kernel
theorem d_H_addHabit_25 : decode prog_6_method_5_code 25 = .ok (.getfield 47, 3) := by decide +kernel
theorem d_H_addHabit_28 : decode prog_6_method_5_code 28 = .ok (.iload_n 2, 1) := by decide +kernel
theorem d_H_addHabit_29 : decode prog_6_method_5_code 29 = .ok (.iastore, 1) := by decide +kernel
theorem d_H_addHabit_30 : decode prog_6_method_5_code 30 = .ok (.aload_n 0, 1) := by decide +kernel
theorem d_H_addHabit_31 : decode prog_6_method_5_code 31 = .ok (.getfield 25, 3) := by decide +kernel
theorem d_H_addHabit_34 : decode prog_6_method_5_code 34 = .ok (.aload_n 0, 1) := by decide +kernel
theorem d_H_addHabit_35 : decode prog_6_method_5_code 35 = .ok (.getfield 47, 3) := by decide +kernel
theorem d_H_addHabit_38 : decode prog_6_method_5_code 38 = .ok (.iload_n 3, 1) := by decide +kernel
theorem d_H_addHabit_39 : decode prog_6_method_5_code 39 = .ok (.iastore, 1) := by decide +kernel
theorem d_H_addHabit_40 : decode prog_6_method_5_code 40 = .ok (.aload_n 0, 1) := by decide +kernel
theorem d_H_addHabit_41 : decode prog_6_method_5_code 41 = .ok (.getfield 28, 3) := by decide +kernel
theorem d_H_addHabit_44 : decode prog_6_method_5_code 44 = .ok (.aload_n 0, 1) := by decide +kernel
theorem d_H_addHabit_45 : decode prog_6_method_5_code 45 = .ok (.getfield 47, 3) := by decide +kernel
theorem d_H_addHabit_48 : decode prog_6_method_5_code 48 = .ok (.aload_n 0, 1) := by decide +kernel
theorem d_H_addHabit_49 : decode prog_6_method_5_code 49 = .ok (.getfield 50, 3) := by decide +kernel
theorem d_H_addHabit_52 : decode prog_6_method_5_code 52 = .ok (.iastore, 1) := by decide +kernel
theorem d_H_addHabit_53 : decode prog_6_method_5_code 53 = .ok (.aload_n 0, 1) := by decide +kernel
theorem d_H_addHabit_54 : decode prog_6_method_5_code 54 = .ok (.dup, 1) := by decide +kernel
theorem d_H_addHabit_55 : decode prog_6_method_5_code 55 = .ok (.getfield 47, 3) := by decide +kernel
theorem d_H_addHabit_58 : decode prog_6_method_5_code 58 = .ok (.iconst 1, 1) := by decide +kernel
theorem d_H_addHabit_59 : decode prog_6_method_5_code 59 = .ok (.iadd, 1) := by decide +kernel
theorem d_H_addHabit_60 : decode prog_6_method_5_code 60 = .ok (.putfield 47, 3) := by decide +kernel
theorem d_H_addHabit_63 : decode prog_6_method_5_code 63 = .ok (.aload_n 0, 1) := by decide +kernel
theorem d_H_addHabit_64 : decode prog_6_method_5_code 64 = .ok (.dup, 1) := by decide +kernel
theorem d_H_addHabit_65 : decode prog_6_method_5_code 65 = .ok (.getfield 44, 3) := by decide +kernel
theorem d_H_addHabit_68 : decode prog_6_method_5_code 68 = .ok (.iconst 1, 1) := by decide +kernel
theorem d_H_addHabit_69 : decode prog_6_method_5_code 69 = .ok (.iadd, 1) := by decide +kernel
theorem d_H_addHabit_70 : decode prog_6_method_5_code 70 = .ok (.putfield 44, 3) := by decide +kernel
theorem d_H_addHabit_73 : decode prog_6_method_5_code 73 = .ok (.return_, 1) := by decide +kernel
theorem d_H_addHabit_9 : decode prog_6_method_5_code 9 = .ok (.return_, 1) := by decide +kernel
theorem d_C_bit_0 : decode prog_1_method_44_code 0 = .ok (.iconst 1, 1) := by decide +kernel
theorem d_C_bit_1 : decode prog_1_method_44_code 1 = .ok (.iload_n 0, 1) := by decide +kernel
theorem d_C_bit_2 : decode prog_1_method_44_code 2 = .ok (.ishl, 1) := by decide +kernel
theorem d_C_bit_3 : decode prog_1_method_44_code 3 = .ok (.ireturn, 1) := by decide +kernel
theorem d_C_isIn_0 : decode prog_1_method_45_code 0 = .ok (.iload_n 1, 1) := by decide +kernel
theorem d_C_isIn_1 : decode prog_1_method_45_code 1 = .ok (.ifCond .lt 22, 3) := by decide +kernel
theorem d_C_isIn_23 : decode prog_1_method_45_code 23 = .ok (.iconst 0, 1) := by decide +kernel
theorem d_C_isIn_24 : decode prog_1_method_45_code 24 = .ok (.ireturn, 1) := by decide +kernel
theorem d_C_isIn_4 : decode prog_1_method_45_code 4 = .ok (.iload_n 1, 1) := by decide +kernel
theorem d_C_isIn_5 : decode prog_1_method_45_code 5 = .ok (.bipush 30, 2) := by decide +kernel
theorem d_C_isIn_7 : decode prog_1_method_45_code 7 = .ok (.if_icmp .ge 16, 3) := by decide +kernel
theorem d_C_isIn_10 : decode prog_1_method_45_code 10 = .ok (.iload_n 0, 1) := by decide +kernel
theorem d_C_isIn_11 : decode prog_1_method_45_code 11 = .ok (.iload_n 1, 1) := by decide +kernel
theorem d_C_isIn_12 : decode prog_1_method_45_code 12 = .ok (.ishr, 1) := by decide +kernel
theorem d_C_isIn_13 : decode prog_1_method_45_code 13 = .ok (.iconst 1, 1) := by decide +kernel
theorem d_C_isIn_14 : decode prog_1_method_45_code 14 = .ok (.iand, 1) := by decide +kernel
theorem d_C_isIn_15 : decode prog_1_method_45_code 15 = .ok (.iconst 1, 1) := by decide +kernel
theorem d_C_isIn_16 : decode prog_1_method_45_code 16 = .ok (.if_icmp .ne 7, 3) := by decide +kernel
theorem d_C_isIn_19 : decode prog_1_method_45_code 19 = .ok (.iconst 1, 1) := by decide +kernel
theorem d_C_isIn_20 : decode prog_1_method_45_code 20 = .ok (.goto 4, 3) := by decide +kernel
theorem d_R_takeWriters_0 : decode prog_11_method_8_code 0 = .ok (.iconst 0, 1) := by decide +kernel
theorem d_R_takeWriters_1 : decode prog_11_method_8_code 1 = .ok (.istore_n 2, 1) := by decide +kernel
theorem d_R_takeWriters_2 : decode prog_11_method_8_code 2 = .ok (.iconst 0, 1) := by decide +kernel
theorem d_R_takeWriters_3 : decode prog_11_method_8_code 3 = .ok (.istore_n 3, 1) := by decide +kernel
theorem d_R_takeWriters_4 : decode prog_11_method_8_code 4 = .ok (.iload_n 3, 1) := by decide +kernel
theorem d_R_takeWriters_5 : decode prog_11_method_8_code 5 = .ok (.bipush 6, 2) := by decide +kernel
theorem d_R_takeWriters_7 : decode prog_11_method_8_code 7 = .ok (.if_icmp .gt 84, 3) := by decide +kernel
theorem d_R_takeWriters_10 : decode prog_11_method_8_code 10 = .ok (.aload_n 0, 1) := by decide +kernel
theorem d_R_takeWriters_11 : decode prog_11_method_8_code 11 = .ok (.getfield 15, 3) := by decide +kernel
theorem d_R_takeWriters_14 : decode prog_11_method_8_code 14 = .ok (.getstatic 130, 3) := by decide +kernel
theorem d_R_takeWriters_17 : decode prog_11_method_8_code 17 = .ok (.if_acmp .ne 74, 3) := by decide +kernel
theorem d_R_takeWriters_20 : decode prog_11_method_8_code 20 = .ok (.aload_n 0, 1) := by decide +kernel
theorem d_R_takeWriters_21 : decode prog_11_method_8_code 21 = .ok (.getfield 54, 3) := by decide +kernel
theorem d_R_takeWriters_24 : decode prog_11_method_8_code 24 = .ok (.ifCond .ne 67, 3) := by decide +kernel
theorem d_R_takeWriters_27 : decode prog_11_method_8_code 27 = .ok (.aload_n 0, 1) := by decide +kernel
theorem d_R_takeWriters_28 : decode prog_11_method_8_code 28 = .ok (.getfield 90, 3) := by decide +kernel
theorem d_R_takeWriters_31 : decode prog_11_method_8_code 31 = .ok (.bipush 6, 2) := by decide +kernel
theorem d_R_takeWriters_33 : decode prog_11_method_8_code 33 = .ok (.if_icmp .lt 11, 3) := by decide +kernel
theorem d_R_takeWriters_44 : decode prog_11_method_8_code 44 = .ok (.iload_n 1, 1) := by decide +kernel
theorem d_R_takeWriters_45 : decode prog_11_method_8_code 45 = .ok (.iload_n 2, 1) := by decide +kernel
theorem d_R_takeWriters_46 : decode prog_11_method_8_code 46 = .ok (.ior, 1) := by decide +kernel
theorem d_R_takeWriters_47 : decode prog_11_method_8_code 47 = .ok (.aload_n 0, 1) := by decide +kernel
theorem d_R_takeWriters_48 : decode prog_11_method_8_code 48 = .ok (.getfield 90, 3) := by decide +kernel
theorem d_R_takeWriters_51 : decode prog_11_method_8_code 51 = .ok (.invokestatic 133, 3) := by decide +kernel
theorem d_R_takeWriters_54 : decode prog_11_method_8_code 54 = .ok (.ifCond .eq 11, 3) := by decide +kernel
theorem d_R_takeWriters_65 : decode prog_11_method_8_code 65 = .ok (.iload_n 2, 1) := by decide +kernel
theorem d_R_takeWriters_66 : decode prog_11_method_8_code 66 = .ok (.aload_n 0, 1) := by decide +kernel
theorem d_R_takeWriters_67 : decode prog_11_method_8_code 67 = .ok (.getfield 90, 3) := by decide +kernel
theorem d_R_takeWriters_70 : decode prog_11_method_8_code 70 = .ok (.invokestatic 137, 3) := by decide +kernel
theorem d_R_takeWriters_73 : decode prog_11_method_8_code 73 = .ok (.ior, 1) := by decide +kernel
theorem d_R_takeWriters_74 : decode prog_11_method_8_code 74 = .ok (.istore_n 2, 1) := by decide +kernel
theorem d_R_takeWriters_75 : decode prog_11_method_8_code 75 = .ok (.aload_n 0, 1) := by decide +kernel
theorem d_R_takeWriters_76 : decode prog_11_method_8_code 76 = .ok (.aload_n 0, 1) := by decide +kernel
theorem d_R_takeWriters_77 : decode prog_11_method_8_code 77 = .ok (.getfield 81, 3) := by decide +kernel
theorem d_R_takeWriters_80 : decode prog_11_method_8_code 80 = .ok (.iconst 1, 1) := by decide +kernel
theorem d_R_takeWriters_81 : decode prog_11_method_8_code 81 = .ok (.iadd, 1) := by decide +kernel
theorem d_R_takeWriters_82 : decode prog_11_method_8_code 82 = .ok (.invokevirtual 57, 3) := by decide +kernel
theorem d_R_takeWriters_85 : decode prog_11_method_8_code 85 = .ok (.iinc 3 1, 3) := by decide +kernel
theorem d_R_takeWriters_88 : decode prog_11_method_8_code 88 = .ok (.goto (-84), 3) := by decide +kernel
theorem d_R_takeWriters_57 : decode prog_11_method_8_code 57 = .ok (.aload_n 0, 1) := by decide +kernel
theorem d_R_takeWriters_58 : decode prog_11_method_8_code 58 = .ok (.iconst 3, 1) := by decide +kernel
theorem d_R_takeWriters_59 : decode prog_11_method_8_code 59 = .ok (.invokevirtual 78, 3) := by decide +kernel
theorem d_R_takeWriters_62 : decode prog_11_method_8_code 62 = .ok (.goto 23, 3) := by decide +kernel
theorem d_R_takeWriters_36 : decode prog_11_method_8_code 36 = .ok (.aload_n 0, 1) := by decide +kernel
theorem d_R_takeWriters_37 : decode prog_11_method_8_code 37 = .ok (.iconst 2, 1) := by decide +kernel
theorem d_R_takeWriters_38 : decode prog_11_method_8_code 38 = .ok (.invokevirtual 78, 3) := by decide +kernel
theorem d_R_takeWriters_41 : decode prog_11_method_8_code 41 = .ok (.goto 44, 3) := by decide +kernel
theorem d_R_takeWriters_91 : decode prog_11_method_8_code 91 = .ok (.iload_n 2, 1) := by decide +kernel
theorem d_R_takeWriters_92 : decode prog_11_method_8_code 92 = .ok (.ireturn, 1) := by decide +kernel
theorem d_R_takeBy_0 : decode prog_11_method_7_code 0 = .ok (.aload_n 0, 1) := by decide +kernel
theorem d_R_takeBy_1 : decode prog_11_method_7_code 1 = .ok (.getfield 15, 3) := by decide +kernel
theorem d_R_takeBy_4 : decode prog_11_method_7_code 4 = .ok (.getstatic 127, 3) := by decide +kernel
theorem d_R_takeBy_7 : decode prog_11_method_7_code 7 = .ok (.if_acmp .eq 5, 3) := by decide +kernel
theorem d_R_takeBy_12 : decode prog_11_method_7_code 12 = .ok (.aload_n 0, 1) := by decide +kernel
theorem d_R_takeBy_13 : decode prog_11_method_7_code 13 = .ok (.aload_n 0, 1) := by decide +kernel
theorem d_R_takeBy_14 : decode prog_11_method_7_code 14 = .ok (.getfield 81, 3) := by decide +kernel
theorem d_R_takeBy_17 : decode prog_11_method_7_code 17 = .ok (.iconst 1, 1) := by decide +kernel
theorem d_R_takeBy_18 : decode prog_11_method_7_code 18 = .ok (.iadd, 1) := by decide +kernel
theorem d_R_takeBy_19 : decode prog_11_method_7_code 19 = .ok (.invokevirtual 57, 3) := by decide +kernel
theorem d_R_takeBy_22 : decode prog_11_method_7_code 22 = .ok (.aload_n 0, 1) := by decide +kernel
theorem d_R_takeBy_23 : decode prog_11_method_7_code 23 = .ok (.getfield 15, 3) := by decide +kernel
theorem d_R_takeBy_26 : decode prog_11_method_7_code 26 = .ok (.getstatic 130, 3) := by decide +kernel
theorem d_R_takeBy_29 : decode prog_11_method_7_code 29 = .ok (.if_acmp .eq 10, 3) := by decide +kernel
theorem d_R_takeBy_39 : decode prog_11_method_7_code 39 = .ok (.aload_n 0, 1) := by decide +kernel
theorem d_R_takeBy_40 : decode prog_11_method_7_code 40 = .ok (.iconst 0, 1) := by decide +kernel
theorem d_R_takeBy_41 : decode prog_11_method_7_code 41 = .ok (.invokevirtual 101, 3) := by decide +kernel
theorem d_R_takeBy_44 : decode prog_11_method_7_code 44 = .ok (.ireturn, 1) := by decide +kernel
theorem d_R_takeBy_32 : decode prog_11_method_7_code 32 = .ok (.aload_n 0, 1) := by decide +kernel
theorem d_R_takeBy_33 : decode prog_11_method_7_code 33 = .ok (.iconst 1, 1) := by decide +kernel
theorem d_R_takeBy_34 : decode prog_11_method_7_code 34 = .ok (.invokevirtual 78, 3) := by decide +kernel
theorem d_R_takeBy_37 : decode prog_11_method_7_code 37 = .ok (.iconst 0, 1) := by decide +kernel
theorem d_R_takeBy_38 : decode prog_11_method_7_code 38 = .ok (.ireturn, 1) := by decide +kernel
theorem d_R_takeBy_10 : decode prog_11_method_7_code 10 = .ok (.iconst 0, 1) := by decide +kernel
theorem d_R_takeBy_11 : decode prog_11_method_7_code 11 = .ok (.ireturn, 1) := by decide +kernel
theorem d_H_addKnot_0 : decode prog_6_method_6_code 0 = .ok (.aload_n 0, 1) := by decide +kernel
theorem d_H_addKnot_1 : decode prog_6_method_6_code 1 = .ok (.getfield 50, 3) := by decide +kernel
theorem d_H_addKnot_4 : decode prog_6_method_6_code 4 = .ok (.bipush 64, 2) := by decide +kernel
theorem d_H_addKnot_6 : decode prog_6_method_6_code 6 = .ok (.if_icmp .lt 4, 3) := by decide +kernel
theorem d_H_addKnot_10 : decode prog_6_method_6_code 10 = .ok (.aload_n 0, 1) := by decide +kernel
theorem d_H_addKnot_11 : decode prog_6_method_6_code 11 = .ok (.getfield 31, 3) := by decide +kernel
theorem d_H_addKnot_14 : decode prog_6_method_6_code 14 = .ok (.aload_n 0, 1) := by decide +kernel
theorem d_H_addKnot_15 : decode prog_6_method_6_code 15 = .ok (.getfield 50, 3) := by decide +kernel
theorem d_H_addKnot_18 : decode prog_6_method_6_code 18 = .ok (.aload_n 1, 1) := by decide +kernel
theorem d_H_addKnot_19 : decode prog_6_method_6_code 19 = .ok (.aastore, 1) := by decide +kernel
theorem d_H_addKnot_20 : decode prog_6_method_6_code 20 = .ok (.aload_n 0, 1) := by decide +kernel
theorem d_H_addKnot_21 : decode prog_6_method_6_code 21 = .ok (.getfield 34, 3) := by decide +kernel
theorem d_H_addKnot_24 : decode prog_6_method_6_code 24 = .ok (.aload_n 0, 1) := by decide +kernel
theorem d_H_addKnot_25 : decode prog_6_method_6_code 25 = .ok (.getfield 50, 3) := by decide +kernel
theorem d_H_addKnot_28 : decode prog_6_method_6_code 28 = .ok (.iload_n 2, 1) := by decide +kernel
theorem d_H_addKnot_29 : decode prog_6_method_6_code 29 = .ok (.iastore, 1) := by decide +kernel
theorem d_H_addKnot_30 : decode prog_6_method_6_code 30 = .ok (.aload_n 0, 1) := by decide +kernel
theorem d_H_addKnot_31 : decode prog_6_method_6_code 31 = .ok (.dup, 1) := by decide +kernel
theorem d_H_addKnot_32 : decode prog_6_method_6_code 32 = .ok (.getfield 50, 3) := by decide +kernel
theorem d_H_addKnot_35 : decode prog_6_method_6_code 35 = .ok (.iconst 1, 1) := by decide +kernel
theorem d_H_addKnot_36 : decode prog_6_method_6_code 36 = .ok (.iadd, 1) := by decide +kernel
theorem d_H_addKnot_37 : decode prog_6_method_6_code 37 = .ok (.putfield 50, 3) := by decide +kernel
theorem d_H_addKnot_40 : decode prog_6_method_6_code 40 = .ok (.return_, 1) := by decide +kernel
theorem d_H_addKnot_9 : decode prog_6_method_6_code 9 = .ok (.return_, 1) := by decide +kernel
theorem d_R_settle_0 : decode prog_11_method_16_code 0 = .ok (.aload_n 0, 1) := by decide +kernel
theorem d_R_settle_1 : decode prog_11_method_16_code 1 = .ok (.getfield 140, 3) := by decide +kernel
theorem d_R_settle_4 : decode prog_11_method_16_code 4 = .ok (.istore_n 2, 1) := by decide +kernel
theorem d_R_settle_5 : decode prog_11_method_16_code 5 = .ok (.iload_n 2, 1) := by decide +kernel
theorem d_R_settle_6 : decode prog_11_method_16_code 6 = .ok (.ifCond .le 67, 3) := by decide +kernel
theorem d_R_settle_9 : decode prog_11_method_16_code 9 = .ok (.aload_n 0, 1) := by decide +kernel
theorem d_R_settle_10 : decode prog_11_method_16_code 10 = .ok (.getfield 140, 3) := by decide +kernel
theorem d_R_settle_13 : decode prog_11_method_16_code 13 = .ok (.ifCond .le 60, 3) := by decide +kernel
theorem d_R_settle_16 : decode prog_11_method_16_code 16 = .ok (.aload_n 0, 1) := by decide +kernel
theorem d_R_settle_17 : decode prog_11_method_16_code 17 = .ok (.getfield 24, 3) := by decide +kernel
theorem d_R_settle_20 : decode prog_11_method_16_code 20 = .ok (.aload_n 0, 1) := by decide +kernel
theorem d_R_settle_21 : decode prog_11_method_16_code 21 = .ok (.getfield 140, 3) := by decide +kernel
theorem d_R_settle_24 : decode prog_11_method_16_code 24 = .ok (.iconst 1, 1) := by decide +kernel
theorem d_R_settle_25 : decode prog_11_method_16_code 25 = .ok (.isub, 1) := by decide +kernel
theorem d_R_settle_26 : decode prog_11_method_16_code 26 = .ok (.aaload, 1) := by decide +kernel
theorem d_R_settle_27 : decode prog_11_method_16_code 27 = .ok (.astore_n 3, 1) := by decide +kernel
theorem d_R_settle_28 : decode prog_11_method_16_code 28 = .ok (.aload_n 3, 1) := by decide +kernel
theorem d_R_settle_29 : decode prog_11_method_16_code 29 = .ok (.ifnull 18, 3) := by decide +kernel
theorem d_R_settle_32 : decode prog_11_method_16_code 32 = .ok (.aload_n 3, 1) := by decide +kernel
theorem d_R_settle_33 : decode prog_11_method_16_code 33 = .ok (.getstatic 174, 3) := by decide +kernel
theorem d_R_settle_36 : decode prog_11_method_16_code 36 = .ok (.if_acmp .eq 11, 3) := by decide +kernel
theorem d_R_settle_39 : decode prog_11_method_16_code 39 = .ok (.aload_n 3, 1) := by decide +kernel
theorem d_R_settle_40 : decode prog_11_method_16_code 40 = .ok (.getfield 189, 3) := by decide +kernel
theorem d_R_settle_43 : decode prog_11_method_16_code 43 = .ok (.iload_n 1, 1) := by decide +kernel
theorem d_R_settle_44 : decode prog_11_method_16_code 44 = .ok (.if_icmp .ge 4, 3) := by decide +kernel
theorem d_R_settle_48 : decode prog_11_method_16_code 48 = .ok (.aload_n 0, 1) := by decide +kernel
theorem d_R_settle_49 : decode prog_11_method_16_code 49 = .ok (.getfield 41, 3) := by decide +kernel
theorem d_R_settle_52 : decode prog_11_method_16_code 52 = .ok (.aload_n 3, 1) := by decide +kernel
theorem d_R_settle_53 : decode prog_11_method_16_code 53 = .ok (.iconst 0, 1) := by decide +kernel
theorem d_R_settle_54 : decode prog_11_method_16_code 54 = .ok (.invokevirtual 171, 3) := by decide +kernel
theorem d_R_settle_57 : decode prog_11_method_16_code 57 = .ok (.aload_n 0, 1) := by decide +kernel
theorem d_R_settle_58 : decode prog_11_method_16_code 58 = .ok (.dup, 1) := by decide +kernel
theorem d_R_settle_59 : decode prog_11_method_16_code 59 = .ok (.getfield 140, 3) := by decide +kernel
theorem d_R_settle_62 : decode prog_11_method_16_code 62 = .ok (.iconst 1, 1) := by decide +kernel
theorem d_R_settle_63 : decode prog_11_method_16_code 63 = .ok (.isub, 1) := by decide +kernel
theorem d_R_settle_64 : decode prog_11_method_16_code 64 = .ok (.putfield 140, 3) := by decide +kernel
theorem d_R_settle_67 : decode prog_11_method_16_code 67 = .ok (.iinc 2 (-1), 3) := by decide +kernel
theorem d_R_settle_70 : decode prog_11_method_16_code 70 = .ok (.goto (-65), 3) := by decide +kernel
theorem d_R_settle_47 : decode prog_11_method_16_code 47 = .ok (.return_, 1) := by decide +kernel
theorem d_R_settle_73 : decode prog_11_method_16_code 73 = .ok (.return_, 1) := by decide +kernel
theorem d_R_closeBracket_0 : decode prog_11_method_12_code 0 = .ok (.aload_n 0, 1) := by decide +kernel
theorem d_R_closeBracket_1 : decode prog_11_method_12_code 1 = .ok (.iconst 0, 1) := by decide +kernel
theorem d_R_closeBracket_2 : decode prog_11_method_12_code 2 = .ok (.invokevirtual 165, 3) := by decide +kernel
theorem d_R_closeBracket_5 : decode prog_11_method_12_code 5 = .ok (.aload_n 0, 1) := by decide +kernel
theorem d_R_closeBracket_6 : decode prog_11_method_12_code 6 = .ok (.getfield 140, 3) := by decide +kernel
theorem d_R_closeBracket_9 : decode prog_11_method_12_code 9 = .ok (.ifCond .le 13, 3) := by decide +kernel
theorem d_R_closeBracket_22 : decode prog_11_method_12_code 22 = .ok (.aload_n 0, 1) := by decide +kernel
theorem d_R_closeBracket_23 : decode prog_11_method_12_code 23 = .ok (.dup, 1) := by decide +kernel
theorem d_R_closeBracket_24 : decode prog_11_method_12_code 24 = .ok (.getfield 143, 3) := by decide +kernel
theorem d_R_closeBracket_27 : decode prog_11_method_12_code 27 = .ok (.iconst 1, 1) := by decide +kernel
theorem d_R_closeBracket_28 : decode prog_11_method_12_code 28 = .ok (.isub, 1) := by decide +kernel
theorem d_R_closeBracket_29 : decode prog_11_method_12_code 29 = .ok (.putfield 143, 3) := by decide +kernel
theorem d_R_closeBracket_32 : decode prog_11_method_12_code 32 = .ok (.aload_n 0, 1) := by decide +kernel
theorem d_R_closeBracket_33 : decode prog_11_method_12_code 33 = .ok (.aload_n 0, 1) := by decide +kernel
theorem d_R_closeBracket_34 : decode prog_11_method_12_code 34 = .ok (.getfield 81, 3) := by decide +kernel
theorem d_R_closeBracket_37 : decode prog_11_method_12_code 37 = .ok (.iconst 1, 1) := by decide +kernel
theorem d_R_closeBracket_38 : decode prog_11_method_12_code 38 = .ok (.iadd, 1) := by decide +kernel
theorem d_R_closeBracket_39 : decode prog_11_method_12_code 39 = .ok (.invokevirtual 57, 3) := by decide +kernel
theorem d_R_closeBracket_42 : decode prog_11_method_12_code 42 = .ok (.return_, 1) := by decide +kernel
theorem d_R_closeBracket_12 : decode prog_11_method_12_code 12 = .ok (.aload_n 0, 1) := by decide +kernel
theorem d_R_closeBracket_13 : decode prog_11_method_12_code 13 = .ok (.dup, 1) := by decide +kernel
theorem d_R_closeBracket_14 : decode prog_11_method_12_code 14 = .ok (.getfield 140, 3) := by decide +kernel
theorem d_R_closeBracket_17 : decode prog_11_method_12_code 17 = .ok (.iconst 1, 1) := by decide +kernel
theorem d_R_closeBracket_18 : decode prog_11_method_12_code 18 = .ok (.isub, 1) := by decide +kernel
theorem d_R_closeBracket_19 : decode prog_11_method_12_code 19 = .ok (.putfield 140, 3) := by decide +kernel
theorem d_R_pend_0 : decode prog_11_method_15_code 0 = .ok (.aload_n 0, 1) := by decide +kernel
theorem d_R_pend_1 : decode prog_11_method_15_code 1 = .ok (.getfield 140, 3) := by decide +kernel
theorem d_R_pend_4 : decode prog_11_method_15_code 4 = .ok (.aload_n 0, 1) := by decide +kernel
theorem d_R_pend_5 : decode prog_11_method_15_code 5 = .ok (.getfield 24, 3) := by decide +kernel
theorem d_R_pend_8 : decode prog_11_method_15_code 8 = .ok (.arraylength, 1) := by decide +kernel
theorem d_R_pend_9 : decode prog_11_method_15_code 9 = .ok (.if_icmp .ge 26, 3) := by decide +kernel
theorem d_R_pend_35 : decode prog_11_method_15_code 35 = .ok (.return_, 1) := by decide +kernel
theorem d_R_pend_12 : decode prog_11_method_15_code 12 = .ok (.aload_n 0, 1) := by decide +kernel
theorem d_R_pend_13 : decode prog_11_method_15_code 13 = .ok (.getfield 24, 3) := by decide +kernel
theorem d_R_pend_16 : decode prog_11_method_15_code 16 = .ok (.aload_n 0, 1) := by decide +kernel
theorem d_R_pend_17 : decode prog_11_method_15_code 17 = .ok (.getfield 140, 3) := by decide +kernel
theorem d_R_pend_20 : decode prog_11_method_15_code 20 = .ok (.aload_n 0, 1) := by decide +kernel
theorem d_R_pend_21 : decode prog_11_method_15_code 21 = .ok (.getfield 15, 3) := by decide +kernel
theorem d_R_pend_24 : decode prog_11_method_15_code 24 = .ok (.aastore, 1) := by decide +kernel
theorem d_R_pend_25 : decode prog_11_method_15_code 25 = .ok (.aload_n 0, 1) := by decide +kernel
theorem d_R_pend_26 : decode prog_11_method_15_code 26 = .ok (.dup, 1) := by decide +kernel
theorem d_R_pend_27 : decode prog_11_method_15_code 27 = .ok (.getfield 140, 3) := by decide +kernel
theorem d_R_pend_30 : decode prog_11_method_15_code 30 = .ok (.iconst 1, 1) := by decide +kernel
theorem d_R_pend_31 : decode prog_11_method_15_code 31 = .ok (.iadd, 1) := by decide +kernel
theorem d_R_pend_32 : decode prog_11_method_15_code 32 = .ok (.putfield 140, 3) := by decide +kernel
theorem d_R_takePending_0 : decode prog_11_method_14_code 0 = .ok (.aload_n 0, 1) := by decide +kernel
theorem d_R_takePending_1 : decode prog_11_method_14_code 1 = .ok (.getfield 41, 3) := by decide +kernel
theorem d_R_takePending_4 : decode prog_11_method_14_code 4 = .ok (.getfield 168, 3) := by decide +kernel
theorem d_R_takePending_7 : decode prog_11_method_14_code 7 = .ok (.bipush 64, 2) := by decide +kernel
theorem d_R_takePending_9 : decode prog_11_method_14_code 9 = .ok (.if_icmp .lt 9, 3) := by decide +kernel
theorem d_R_takePending_18 : decode prog_11_method_14_code 18 = .ok (.aload_n 0, 1) := by decide +kernel
theorem d_R_takePending_19 : decode prog_11_method_14_code 19 = .ok (.getfield 41, 3) := by decide +kernel
theorem d_R_takePending_22 : decode prog_11_method_14_code 22 = .ok (.dup, 1) := by decide +kernel
theorem d_R_takePending_23 : decode prog_11_method_14_code 23 = .ok (.getfield 168, 3) := by decide +kernel
theorem d_R_takePending_26 : decode prog_11_method_14_code 26 = .ok (.iconst 1, 1) := by decide +kernel
theorem d_R_takePending_27 : decode prog_11_method_14_code 27 = .ok (.iadd, 1) := by decide +kernel
theorem d_R_takePending_28 : decode prog_11_method_14_code 28 = .ok (.putfield 168, 3) := by decide +kernel
theorem d_R_takePending_31 : decode prog_11_method_14_code 31 = .ok (.aload_n 0, 1) := by decide +kernel
theorem d_R_takePending_32 : decode prog_11_method_14_code 32 = .ok (.invokevirtual 186, 3) := by decide +kernel
theorem d_R_takePending_35 : decode prog_11_method_14_code 35 = .ok (.aload_n 0, 1) := by decide +kernel
theorem d_R_takePending_36 : decode prog_11_method_14_code 36 = .ok (.aload_n 0, 1) := by decide +kernel
theorem d_R_takePending_37 : decode prog_11_method_14_code 37 = .ok (.getfield 81, 3) := by decide +kernel
theorem d_R_takePending_40 : decode prog_11_method_14_code 40 = .ok (.iconst 1, 1) := by decide +kernel
theorem d_R_takePending_41 : decode prog_11_method_14_code 41 = .ok (.iadd, 1) := by decide +kernel
theorem d_R_takePending_42 : decode prog_11_method_14_code 42 = .ok (.invokevirtual 57, 3) := by decide +kernel
theorem d_R_takePending_45 : decode prog_11_method_14_code 45 = .ok (.return_, 1) := by decide +kernel
theorem d_R_takePending_12 : decode prog_11_method_14_code 12 = .ok (.aload_n 0, 1) := by decide +kernel
theorem d_R_takePending_13 : decode prog_11_method_14_code 13 = .ok (.iconst 2, 1) := by decide +kernel
theorem d_R_takePending_14 : decode prog_11_method_14_code 14 = .ok (.invokevirtual 78, 3) := by decide +kernel
theorem d_R_takePending_17 : decode prog_11_method_14_code 17 = .ok (.return_, 1) := by decide +kernel
theorem d_R_takeJoint_0 : decode prog_11_method_13_code 0 = .ok (.aload_n 0, 1) := by decide +kernel
theorem d_R_takeJoint_1 : decode prog_11_method_13_code 1 = .ok (.getfield 15, 3) := by decide +kernel
theorem d_R_takeJoint_4 : decode prog_11_method_13_code 4 = .ok (.getfield 189, 3) := by decide +kernel
theorem d_R_takeJoint_7 : decode prog_11_method_13_code 7 = .ok (.iconst 4, 1) := by decide +kernel
theorem d_R_takeJoint_8 : decode prog_11_method_13_code 8 = .ok (.if_icmp .ne 7, 3) := by decide +kernel
theorem d_R_takeJoint_15 : decode prog_11_method_13_code 15 = .ok (.iconst 0, 1) := by decide +kernel
theorem d_R_takeJoint_16 : decode prog_11_method_13_code 16 = .ok (.istore_n 1, 1) := by decide +kernel
theorem d_R_takeJoint_17 : decode prog_11_method_13_code 17 = .ok (.iload_n 1, 1) := by decide +kernel
theorem d_R_takeJoint_18 : decode prog_11_method_13_code 18 = .ok (.ifCond .eq 21, 3) := by decide +kernel
theorem d_R_takeJoint_39 : decode prog_11_method_13_code 39 = .ok (.aload_n 0, 1) := by decide +kernel
theorem d_R_takeJoint_40 : decode prog_11_method_13_code 40 = .ok (.getfield 15, 3) := by decide +kernel
theorem d_R_takeJoint_43 : decode prog_11_method_13_code 43 = .ok (.getfield 189, 3) := by decide +kernel
theorem d_R_takeJoint_46 : decode prog_11_method_13_code 46 = .ok (.iconst 4, 1) := by decide +kernel
theorem d_R_takeJoint_47 : decode prog_11_method_13_code 47 = .ok (.if_icmp .gt 13, 3) := by decide +kernel
theorem d_R_takeJoint_60 : decode prog_11_method_13_code 60 = .ok (.aload_n 0, 1) := by decide +kernel
theorem d_R_takeJoint_61 : decode prog_11_method_13_code 61 = .ok (.aload_n 0, 1) := by decide +kernel
theorem d_R_takeJoint_62 : decode prog_11_method_13_code 62 = .ok (.getfield 15, 3) := by decide +kernel
theorem d_R_takeJoint_65 : decode prog_11_method_13_code 65 = .ok (.getfield 189, 3) := by decide +kernel
theorem d_R_takeJoint_68 : decode prog_11_method_13_code 68 = .ok (.iconst 4, 1) := by decide +kernel
theorem d_R_takeJoint_69 : decode prog_11_method_13_code 69 = .ok (.if_icmp .ge 7, 3) := by decide +kernel
theorem d_R_takeJoint_76 : decode prog_11_method_13_code 76 = .ok (.iconst 0, 1) := by decide +kernel
theorem d_R_takeJoint_77 : decode prog_11_method_13_code 77 = .ok (.putfield 150, 3) := by decide +kernel
theorem d_R_takeJoint_80 : decode prog_11_method_13_code 80 = .ok (.aload_n 0, 1) := by decide +kernel
theorem d_R_takeJoint_81 : decode prog_11_method_13_code 81 = .ok (.iconst 1, 1) := by decide +kernel
theorem d_R_takeJoint_82 : decode prog_11_method_13_code 82 = .ok (.putfield 146, 3) := by decide +kernel
theorem d_R_takeJoint_85 : decode prog_11_method_13_code 85 = .ok (.aload_n 0, 1) := by decide +kernel
theorem d_R_takeJoint_86 : decode prog_11_method_13_code 86 = .ok (.aload_n 0, 1) := by decide +kernel
theorem d_R_takeJoint_87 : decode prog_11_method_13_code 87 = .ok (.getfield 15, 3) := by decide +kernel
theorem d_R_takeJoint_90 : decode prog_11_method_13_code 90 = .ok (.getfield 189, 3) := by decide +kernel
theorem d_R_takeJoint_93 : decode prog_11_method_13_code 93 = .ok (.invokevirtual 165, 3) := by decide +kernel
theorem d_R_takeJoint_96 : decode prog_11_method_13_code 96 = .ok (.aload_n 0, 1) := by decide +kernel
theorem d_R_takeJoint_97 : decode prog_11_method_13_code 97 = .ok (.invokevirtual 183, 3) := by decide +kernel
theorem d_R_takeJoint_100 : decode prog_11_method_13_code 100 = .ok (.return_, 1) := by decide +kernel
theorem d_R_takeJoint_72 : decode prog_11_method_13_code 72 = .ok (.iconst 1, 1) := by decide +kernel
theorem d_R_takeJoint_73 : decode prog_11_method_13_code 73 = .ok (.goto 4, 3) := by decide +kernel
theorem d_R_takeJoint_50 : decode prog_11_method_13_code 50 = .ok (.aload_n 0, 1) := by decide +kernel
theorem d_R_takeJoint_51 : decode prog_11_method_13_code 51 = .ok (.getfield 28, 3) := by decide +kernel
theorem d_R_takeJoint_54 : decode prog_11_method_13_code 54 = .ok (.aload_n 0, 1) := by decide +kernel
theorem d_R_takeJoint_55 : decode prog_11_method_13_code 55 = .ok (.getfield 143, 3) := by decide +kernel
theorem d_R_takeJoint_58 : decode prog_11_method_13_code 58 = .ok (.iload_n 1, 1) := by decide +kernel
theorem d_R_takeJoint_59 : decode prog_11_method_13_code 59 = .ok (.bastore, 1) := by decide +kernel
theorem d_R_takeJoint_21 : decode prog_11_method_13_code 21 = .ok (.aload_n 0, 1) := by decide +kernel
theorem d_R_takeJoint_22 : decode prog_11_method_13_code 22 = .ok (.getfield 28, 3) := by decide +kernel
theorem d_R_takeJoint_25 : decode prog_11_method_13_code 25 = .ok (.aload_n 0, 1) := by decide +kernel
theorem d_R_takeJoint_26 : decode prog_11_method_13_code 26 = .ok (.getfield 143, 3) := by decide +kernel
theorem d_R_takeJoint_29 : decode prog_11_method_13_code 29 = .ok (.baload, 1) := by decide +kernel
theorem d_R_takeJoint_30 : decode prog_11_method_13_code 30 = .ok (.ifCond .eq 9, 3) := by decide +kernel
theorem d_R_takeJoint_33 : decode prog_11_method_13_code 33 = .ok (.aload_n 0, 1) := by decide +kernel
theorem d_R_takeJoint_34 : decode prog_11_method_13_code 34 = .ok (.iconst 1, 1) := by decide +kernel
theorem d_R_takeJoint_35 : decode prog_11_method_13_code 35 = .ok (.invokevirtual 78, 3) := by decide +kernel
theorem d_R_takeJoint_38 : decode prog_11_method_13_code 38 = .ok (.return_, 1) := by decide +kernel
theorem d_R_takeJoint_11 : decode prog_11_method_13_code 11 = .ok (.iconst 1, 1) := by decide +kernel
theorem d_R_takeJoint_12 : decode prog_11_method_13_code 12 = .ok (.goto 4, 3) := by decide +kernel
theorem d_R_openBracket_0 : decode prog_11_method_11_code 0 = .ok (.aload_n 0, 1) := by decide +kernel
theorem d_R_openBracket_1 : decode prog_11_method_11_code 1 = .ok (.getfield 143, 3) := by decide +kernel
theorem d_R_openBracket_4 : decode prog_11_method_11_code 4 = .ok (.bipush 8, 2) := by decide +kernel
theorem d_R_openBracket_6 : decode prog_11_method_11_code 6 = .ok (.if_icmp .lt 9, 3) := by decide +kernel
theorem d_R_openBracket_15 : decode prog_11_method_11_code 15 = .ok (.aload_n 0, 1) := by decide +kernel
theorem d_R_openBracket_16 : decode prog_11_method_11_code 16 = .ok (.dup, 1) := by decide +kernel
theorem d_R_openBracket_17 : decode prog_11_method_11_code 17 = .ok (.getfield 143, 3) := by decide +kernel
theorem d_R_openBracket_20 : decode prog_11_method_11_code 20 = .ok (.iconst 1, 1) := by decide +kernel
theorem d_R_openBracket_21 : decode prog_11_method_11_code 21 = .ok (.iadd, 1) := by decide +kernel
theorem d_R_openBracket_22 : decode prog_11_method_11_code 22 = .ok (.putfield 143, 3) := by decide +kernel
theorem d_R_openBracket_25 : decode prog_11_method_11_code 25 = .ok (.aload_n 0, 1) := by decide +kernel
theorem d_R_openBracket_26 : decode prog_11_method_11_code 26 = .ok (.getfield 28, 3) := by decide +kernel
theorem d_R_openBracket_29 : decode prog_11_method_11_code 29 = .ok (.aload_n 0, 1) := by decide +kernel
theorem d_R_openBracket_30 : decode prog_11_method_11_code 30 = .ok (.getfield 143, 3) := by decide +kernel
theorem d_R_openBracket_33 : decode prog_11_method_11_code 33 = .ok (.iconst 0, 1) := by decide +kernel
theorem d_R_openBracket_34 : decode prog_11_method_11_code 34 = .ok (.bastore, 1) := by decide +kernel
theorem d_R_openBracket_35 : decode prog_11_method_11_code 35 = .ok (.aload_n 0, 1) := by decide +kernel
theorem d_R_openBracket_36 : decode prog_11_method_11_code 36 = .ok (.iconst 1, 1) := by decide +kernel
theorem d_R_openBracket_37 : decode prog_11_method_11_code 37 = .ok (.putfield 150, 3) := by decide +kernel
theorem d_R_openBracket_40 : decode prog_11_method_11_code 40 = .ok (.aload_n 0, 1) := by decide +kernel
theorem d_R_openBracket_41 : decode prog_11_method_11_code 41 = .ok (.invokevirtual 186, 3) := by decide +kernel
theorem d_R_openBracket_44 : decode prog_11_method_11_code 44 = .ok (.aload_n 0, 1) := by decide +kernel
theorem d_R_openBracket_45 : decode prog_11_method_11_code 45 = .ok (.aload_n 0, 1) := by decide +kernel
theorem d_R_openBracket_46 : decode prog_11_method_11_code 46 = .ok (.getfield 81, 3) := by decide +kernel
theorem d_R_openBracket_49 : decode prog_11_method_11_code 49 = .ok (.iconst 1, 1) := by decide +kernel
theorem d_R_openBracket_50 : decode prog_11_method_11_code 50 = .ok (.iadd, 1) := by decide +kernel
theorem d_R_openBracket_51 : decode prog_11_method_11_code 51 = .ok (.invokevirtual 57, 3) := by decide +kernel
theorem d_R_openBracket_54 : decode prog_11_method_11_code 54 = .ok (.return_, 1) := by decide +kernel
theorem d_R_openBracket_9 : decode prog_11_method_11_code 9 = .ok (.aload_n 0, 1) := by decide +kernel
theorem d_R_openBracket_10 : decode prog_11_method_11_code 10 = .ok (.iconst 2, 1) := by decide +kernel
theorem d_R_openBracket_11 : decode prog_11_method_11_code 11 = .ok (.invokevirtual 78, 3) := by decide +kernel
theorem d_R_openBracket_14 : decode prog_11_method_11_code 14 = .ok (.return_, 1) := by decide +kernel
theorem d_R_takeValue_0 : decode prog_11_method_10_code 0 = .ok (.aload_n 0, 1) := by decide +kernel
theorem d_R_takeValue_1 : decode prog_11_method_10_code 1 = .ok (.getfield 15, 3) := by decide +kernel
theorem d_R_takeValue_4 : decode prog_11_method_10_code 4 = .ok (.getstatic 130, 3) := by decide +kernel
theorem d_R_takeValue_7 : decode prog_11_method_10_code 7 = .ok (.if_acmp .eq 14, 3) := by decide +kernel
theorem d_R_takeValue_21 : decode prog_11_method_10_code 21 = .ok (.aload_n 0, 1) := by decide +kernel
theorem d_R_takeValue_22 : decode prog_11_method_10_code 22 = .ok (.getfield 90, 3) := by decide +kernel
theorem d_R_takeValue_25 : decode prog_11_method_10_code 25 = .ok (.sipush 999, 3) := by decide +kernel
theorem d_R_takeValue_28 : decode prog_11_method_10_code 28 = .ok (.if_icmp .gt 15, 3) := by decide +kernel
theorem d_R_takeValue_43 : decode prog_11_method_10_code 43 = .ok (.aload_n 0, 1) := by decide +kernel
theorem d_R_takeValue_44 : decode prog_11_method_10_code 44 = .ok (.iconst 2, 1) := by decide +kernel
theorem d_R_takeValue_45 : decode prog_11_method_10_code 45 = .ok (.invokevirtual 78, 3) := by decide +kernel
theorem d_R_takeValue_48 : decode prog_11_method_10_code 48 = .ok (.return_, 1) := by decide +kernel
theorem d_R_takeValue_31 : decode prog_11_method_10_code 31 = .ok (.aload_n 0, 1) := by decide +kernel
theorem d_R_takeValue_32 : decode prog_11_method_10_code 32 = .ok (.getfield 41, 3) := by decide +kernel
theorem d_R_takeValue_35 : decode prog_11_method_10_code 35 = .ok (.getfield 168, 3) := by decide +kernel
theorem d_R_takeValue_38 : decode prog_11_method_10_code 38 = .ok (.bipush 64, 2) := by decide +kernel
theorem d_R_takeValue_40 : decode prog_11_method_10_code 40 = .ok (.if_icmp .lt 9, 3) := by decide +kernel
theorem d_R_takeValue_49 : decode prog_11_method_10_code 49 = .ok (.aload_n 0, 1) := by decide +kernel
theorem d_R_takeValue_50 : decode prog_11_method_10_code 50 = .ok (.getfield 41, 3) := by decide +kernel
theorem d_R_takeValue_53 : decode prog_11_method_10_code 53 = .ok (.dup, 1) := by decide +kernel
theorem d_R_takeValue_54 : decode prog_11_method_10_code 54 = .ok (.getfield 168, 3) := by decide +kernel
theorem d_R_takeValue_57 : decode prog_11_method_10_code 57 = .ok (.iconst 1, 1) := by decide +kernel
theorem d_R_takeValue_58 : decode prog_11_method_10_code 58 = .ok (.iadd, 1) := by decide +kernel
theorem d_R_takeValue_59 : decode prog_11_method_10_code 59 = .ok (.putfield 168, 3) := by decide +kernel
theorem d_R_takeValue_62 : decode prog_11_method_10_code 62 = .ok (.aload_n 0, 1) := by decide +kernel
theorem d_R_takeValue_63 : decode prog_11_method_10_code 63 = .ok (.getfield 41, 3) := by decide +kernel
theorem d_R_takeValue_66 : decode prog_11_method_10_code 66 = .ok (.aload_n 0, 1) := by decide +kernel
theorem d_R_takeValue_67 : decode prog_11_method_10_code 67 = .ok (.getfield 15, 3) := by decide +kernel
theorem d_R_takeValue_70 : decode prog_11_method_10_code 70 = .ok (.aload_n 0, 1) := by decide +kernel
theorem d_R_takeValue_71 : decode prog_11_method_10_code 71 = .ok (.getfield 90, 3) := by decide +kernel
theorem d_R_takeValue_74 : decode prog_11_method_10_code 74 = .ok (.invokevirtual 171, 3) := by decide +kernel
theorem d_R_takeValue_77 : decode prog_11_method_10_code 77 = .ok (.aload_n 0, 1) := by decide +kernel
theorem d_R_takeValue_78 : decode prog_11_method_10_code 78 = .ok (.iconst 0, 1) := by decide +kernel
theorem d_R_takeValue_79 : decode prog_11_method_10_code 79 = .ok (.putfield 146, 3) := by decide +kernel
theorem d_R_takeValue_82 : decode prog_11_method_10_code 82 = .ok (.aload_n 0, 1) := by decide +kernel
theorem d_R_takeValue_83 : decode prog_11_method_10_code 83 = .ok (.aload_n 0, 1) := by decide +kernel
theorem d_R_takeValue_84 : decode prog_11_method_10_code 84 = .ok (.getfield 81, 3) := by decide +kernel
theorem d_R_takeValue_87 : decode prog_11_method_10_code 87 = .ok (.iconst 1, 1) := by decide +kernel
theorem d_R_takeValue_88 : decode prog_11_method_10_code 88 = .ok (.iadd, 1) := by decide +kernel
theorem d_R_takeValue_89 : decode prog_11_method_10_code 89 = .ok (.invokevirtual 57, 3) := by decide +kernel
theorem d_R_takeValue_92 : decode prog_11_method_10_code 92 = .ok (.goto 49, 3) := by decide +kernel
theorem d_R_takeValue_141 : decode prog_11_method_10_code 141 = .ok (.return_, 1) := by decide +kernel
theorem d_R_takeValue_10 : decode prog_11_method_10_code 10 = .ok (.aload_n 0, 1) := by decide +kernel
theorem d_R_takeValue_11 : decode prog_11_method_10_code 11 = .ok (.getfield 15, 3) := by decide +kernel
theorem d_R_takeValue_14 : decode prog_11_method_10_code 14 = .ok (.getfield 95, 3) := by decide +kernel
theorem d_R_takeValue_17 : decode prog_11_method_10_code 17 = .ok (.iconst 2, 1) := by decide +kernel
theorem d_R_takeValue_18 : decode prog_11_method_10_code 18 = .ok (.if_icmp .ne 77, 3) := by decide +kernel
theorem d_R_takeValue_95 : decode prog_11_method_10_code 95 = .ok (.aload_n 0, 1) := by decide +kernel
theorem d_R_takeValue_96 : decode prog_11_method_10_code 96 = .ok (.getfield 15, 3) := by decide +kernel
theorem d_R_takeValue_99 : decode prog_11_method_10_code 99 = .ok (.getstatic 174, 3) := by decide +kernel
theorem d_R_takeValue_102 : decode prog_11_method_10_code 102 = .ok (.if_acmp .ne 10, 3) := by decide +kernel
theorem d_R_takeValue_112 : decode prog_11_method_10_code 112 = .ok (.aload_n 0, 1) := by decide +kernel
theorem d_R_takeValue_113 : decode prog_11_method_10_code 113 = .ok (.getfield 15, 3) := by decide +kernel
theorem d_R_takeValue_116 : decode prog_11_method_10_code 116 = .ok (.getstatic 180, 3) := by decide +kernel
theorem d_R_takeValue_119 : decode prog_11_method_10_code 119 = .ok (.if_acmp .ne 17, 3) := by decide +kernel
theorem d_R_takeValue_136 : decode prog_11_method_10_code 136 = .ok (.aload_n 0, 1) := by decide +kernel
theorem d_R_takeValue_137 : decode prog_11_method_10_code 137 = .ok (.iconst 1, 1) := by decide +kernel
theorem d_R_takeValue_138 : decode prog_11_method_10_code 138 = .ok (.invokevirtual 78, 3) := by decide +kernel
theorem d_R_takeValue_122 : decode prog_11_method_10_code 122 = .ok (.aload_n 0, 1) := by decide +kernel
theorem d_R_takeValue_123 : decode prog_11_method_10_code 123 = .ok (.getfield 150, 3) := by decide +kernel
theorem d_R_takeValue_126 : decode prog_11_method_10_code 126 = .ok (.ifCond .eq 10, 3) := by decide +kernel
theorem d_R_takeValue_129 : decode prog_11_method_10_code 129 = .ok (.aload_n 0, 1) := by decide +kernel
theorem d_R_takeValue_130 : decode prog_11_method_10_code 130 = .ok (.invokevirtual 183, 3) := by decide +kernel
theorem d_R_takeValue_133 : decode prog_11_method_10_code 133 = .ok (.goto 8, 3) := by decide +kernel
theorem d_R_takeValue_105 : decode prog_11_method_10_code 105 = .ok (.aload_n 0, 1) := by decide +kernel
theorem d_R_takeValue_106 : decode prog_11_method_10_code 106 = .ok (.invokevirtual 177, 3) := by decide +kernel
theorem d_R_takeValue_109 : decode prog_11_method_10_code 109 = .ok (.goto 32, 3) := by decide +kernel
theorem d_R_takeExpression_0 : decode prog_11_method_9_code 0 = .ok (.aload_n 0, 1) := by decide +kernel
theorem d_R_takeExpression_1 : decode prog_11_method_9_code 1 = .ok (.iconst 0, 1) := by decide +kernel
theorem d_R_takeExpression_2 : decode prog_11_method_9_code 2 = .ok (.putfield 140, 3) := by decide +kernel
theorem d_R_takeExpression_5 : decode prog_11_method_9_code 5 = .ok (.aload_n 0, 1) := by decide +kernel
theorem d_R_takeExpression_6 : decode prog_11_method_9_code 6 = .ok (.iconst 0, 1) := by decide +kernel
theorem d_R_takeExpression_7 : decode prog_11_method_9_code 7 = .ok (.putfield 143, 3) := by decide +kernel
theorem d_R_takeExpression_10 : decode prog_11_method_9_code 10 = .ok (.aload_n 0, 1) := by decide +kernel
theorem d_R_takeExpression_11 : decode prog_11_method_9_code 11 = .ok (.getfield 28, 3) := by decide +kernel
theorem d_R_takeExpression_14 : decode prog_11_method_9_code 14 = .ok (.iconst 0, 1) := by decide +kernel
theorem d_R_takeExpression_15 : decode prog_11_method_9_code 15 = .ok (.iconst 0, 1) := by decide +kernel
theorem d_R_takeExpression_16 : decode prog_11_method_9_code 16 = .ok (.bastore, 1) := by decide +kernel
theorem d_R_takeExpression_17 : decode prog_11_method_9_code 17 = .ok (.aload_n 0, 1) := by decide +kernel
theorem d_R_takeExpression_18 : decode prog_11_method_9_code 18 = .ok (.iconst 1, 1) := by decide +kernel
theorem d_R_takeExpression_19 : decode prog_11_method_9_code 19 = .ok (.putfield 146, 3) := by decide +kernel
theorem d_R_takeExpression_22 : decode prog_11_method_9_code 22 = .ok (.aload_n 0, 1) := by decide +kernel
theorem d_R_takeExpression_23 : decode prog_11_method_9_code 23 = .ok (.iconst 1, 1) := by decide +kernel
theorem d_R_takeExpression_24 : decode prog_11_method_9_code 24 = .ok (.putfield 150, 3) := by decide +kernel
theorem d_R_takeExpression_27 : decode prog_11_method_9_code 27 = .ok (.iconst 0, 1) := by decide +kernel
theorem d_R_takeExpression_28 : decode prog_11_method_9_code 28 = .ok (.istore_n 1, 1) := by decide +kernel
theorem d_R_takeExpression_29 : decode prog_11_method_9_code 29 = .ok (.iload_n 1, 1) := by decide +kernel
theorem d_R_takeExpression_30 : decode prog_11_method_9_code 30 = .ok (.aload_n 0, 1) := by decide +kernel
theorem d_R_takeExpression_31 : decode prog_11_method_9_code 31 = .ok (.getfield 37, 3) := by decide +kernel
theorem d_R_takeExpression_34 : decode prog_11_method_9_code 34 = .ok (.getfield 60, 3) := by decide +kernel
theorem d_R_takeExpression_37 : decode prog_11_method_9_code 37 = .ok (.if_icmp .ge 69, 3) := by decide +kernel
theorem d_R_takeExpression_40 : decode prog_11_method_9_code 40 = .ok (.aload_n 0, 1) := by decide +kernel
theorem d_R_takeExpression_41 : decode prog_11_method_9_code 41 = .ok (.getfield 54, 3) := by decide +kernel
theorem d_R_takeExpression_44 : decode prog_11_method_9_code 44 = .ok (.ifCond .ne 62, 3) := by decide +kernel
theorem d_R_takeExpression_47 : decode prog_11_method_9_code 47 = .ok (.aload_n 0, 1) := by decide +kernel
theorem d_R_takeExpression_48 : decode prog_11_method_9_code 48 = .ok (.getfield 146, 3) := by decide +kernel
theorem d_R_takeExpression_51 : decode prog_11_method_9_code 51 = .ok (.ifCond .eq 10, 3) := by decide +kernel
theorem d_R_takeExpression_61 : decode prog_11_method_9_code 61 = .ok (.aload_n 0, 1) := by decide +kernel
theorem d_R_takeExpression_62 : decode prog_11_method_9_code 62 = .ok (.getfield 15, 3) := by decide +kernel
theorem d_R_takeExpression_65 : decode prog_11_method_9_code 65 = .ok (.getstatic 156, 3) := by decide +kernel
theorem d_R_takeExpression_68 : decode prog_11_method_9_code 68 = .ok (.if_acmp .ne 17, 3) := by decide +kernel
theorem d_R_takeExpression_85 : decode prog_11_method_9_code 85 = .ok (.aload_n 0, 1) := by decide +kernel
theorem d_R_takeExpression_86 : decode prog_11_method_9_code 86 = .ok (.getfield 15, 3) := by decide +kernel
theorem d_R_takeExpression_89 : decode prog_11_method_9_code 89 = .ok (.getfield 95, 3) := by decide +kernel
theorem d_R_takeExpression_92 : decode prog_11_method_9_code 92 = .ok (.iconst 3, 1) := by decide +kernel
theorem d_R_takeExpression_93 : decode prog_11_method_9_code 93 = .ok (.if_icmp .ne 13, 3) := by decide +kernel
theorem d_R_takeExpression_96 : decode prog_11_method_9_code 96 = .ok (.aload_n 0, 1) := by decide +kernel
theorem d_R_takeExpression_97 : decode prog_11_method_9_code 97 = .ok (.invokevirtual 162, 3) := by decide +kernel
theorem d_R_takeExpression_100 : decode prog_11_method_9_code 100 = .ok (.iinc 1 1, 3) := by decide +kernel
theorem d_R_takeExpression_103 : decode prog_11_method_9_code 103 = .ok (.goto (-74), 3) := by decide +kernel
theorem d_R_takeExpression_71 : decode prog_11_method_9_code 71 = .ok (.aload_n 0, 1) := by decide +kernel
theorem d_R_takeExpression_72 : decode prog_11_method_9_code 72 = .ok (.getfield 143, 3) := by decide +kernel
theorem d_R_takeExpression_75 : decode prog_11_method_9_code 75 = .ok (.ifCond .le 10, 3) := by decide +kernel
theorem d_R_takeExpression_78 : decode prog_11_method_9_code 78 = .ok (.aload_n 0, 1) := by decide +kernel
theorem d_R_takeExpression_79 : decode prog_11_method_9_code 79 = .ok (.invokevirtual 159, 3) := by decide +kernel
theorem d_R_takeExpression_82 : decode prog_11_method_9_code 82 = .ok (.goto 18, 3) := by decide +kernel
theorem d_R_takeExpression_54 : decode prog_11_method_9_code 54 = .ok (.aload_n 0, 1) := by decide +kernel
theorem d_R_takeExpression_55 : decode prog_11_method_9_code 55 = .ok (.invokevirtual 153, 3) := by decide +kernel
theorem d_R_takeExpression_58 : decode prog_11_method_9_code 58 = .ok (.goto 42, 3) := by decide +kernel
theorem d_R_takeExpression_106 : decode prog_11_method_9_code 106 = .ok (.aload_n 0, 1) := by decide +kernel
theorem d_R_takeExpression_107 : decode prog_11_method_9_code 107 = .ok (.getfield 54, 3) := by decide +kernel
theorem d_R_takeExpression_110 : decode prog_11_method_9_code 110 = .ok (.ifCond .ne 15, 3) := by decide +kernel
theorem d_R_takeExpression_125 : decode prog_11_method_9_code 125 = .ok (.aload_n 0, 1) := by decide +kernel
theorem d_R_takeExpression_126 : decode prog_11_method_9_code 126 = .ok (.iconst 0, 1) := by decide +kernel
theorem d_R_takeExpression_127 : decode prog_11_method_9_code 127 = .ok (.invokevirtual 165, 3) := by decide +kernel
theorem d_R_takeExpression_130 : decode prog_11_method_9_code 130 = .ok (.return_, 1) := by decide +kernel
theorem d_R_takeExpression_113 : decode prog_11_method_9_code 113 = .ok (.aload_n 0, 1) := by decide +kernel
theorem d_R_takeExpression_114 : decode prog_11_method_9_code 114 = .ok (.getfield 143, 3) := by decide +kernel
theorem d_R_takeExpression_117 : decode prog_11_method_9_code 117 = .ok (.ifCond .le 8, 3) := by decide +kernel
theorem d_R_takeExpression_120 : decode prog_11_method_9_code 120 = .ok (.aload_n 0, 1) := by decide +kernel
theorem d_R_takeExpression_121 : decode prog_11_method_9_code 121 = .ok (.iconst 1, 1) := by decide +kernel
theorem d_R_takeExpression_122 : decode prog_11_method_9_code 122 = .ok (.invokevirtual 78, 3) := by decide +kernel
theorem d_R_takeHabit_0 : decode prog_11_method_6_code 0 = .ok (.aload_n 0, 1) := by decide +kernel
theorem d_R_takeHabit_1 : decode prog_11_method_6_code 1 = .ok (.getfield 15, 3) := by decide +kernel
theorem d_R_takeHabit_4 : decode prog_11_method_6_code 4 = .ok (.getstatic 72, 3) := by decide +kernel
theorem d_R_takeHabit_7 : decode prog_11_method_6_code 7 = .ok (.if_acmp .ne 7, 3) := by decide +kernel
theorem d_R_takeHabit_14 : decode prog_11_method_6_code 14 = .ok (.iconst 0, 1) := by decide +kernel
theorem d_R_takeHabit_15 : decode prog_11_method_6_code 15 = .ok (.istore_n 1, 1) := by decide +kernel
theorem d_R_takeHabit_16 : decode prog_11_method_6_code 16 = .ok (.aload_n 0, 1) := by decide +kernel
theorem d_R_takeHabit_17 : decode prog_11_method_6_code 17 = .ok (.getfield 41, 3) := by decide +kernel
theorem d_R_takeHabit_20 : decode prog_11_method_6_code 20 = .ok (.getfield 112, 3) := by decide +kernel
theorem d_R_takeHabit_23 : decode prog_11_method_6_code 23 = .ok (.bipush 8, 2) := by decide +kernel
theorem d_R_takeHabit_25 : decode prog_11_method_6_code 25 = .ok (.if_icmp .lt 9, 3) := by decide +kernel
theorem d_R_takeHabit_34 : decode prog_11_method_6_code 34 = .ok (.aload_n 0, 1) := by decide +kernel
theorem d_R_takeHabit_35 : decode prog_11_method_6_code 35 = .ok (.getfield 41, 3) := by decide +kernel
theorem d_R_takeHabit_38 : decode prog_11_method_6_code 38 = .ok (.getfield 113, 3) := by decide +kernel
theorem d_R_takeHabit_41 : decode prog_11_method_6_code 41 = .ok (.istore_n 2, 1) := by decide +kernel
theorem d_R_takeHabit_42 : decode prog_11_method_6_code 42 = .ok (.aload_n 0, 1) := by decide +kernel
theorem d_R_takeHabit_43 : decode prog_11_method_6_code 43 = .ok (.aload_n 0, 1) := by decide +kernel
theorem d_R_takeHabit_44 : decode prog_11_method_6_code 44 = .ok (.getfield 81, 3) := by decide +kernel
theorem d_R_takeHabit_47 : decode prog_11_method_6_code 47 = .ok (.iconst 1, 1) := by decide +kernel
theorem d_R_takeHabit_48 : decode prog_11_method_6_code 48 = .ok (.iadd, 1) := by decide +kernel
theorem d_R_takeHabit_49 : decode prog_11_method_6_code 49 = .ok (.invokevirtual 57, 3) := by decide +kernel
theorem d_R_takeHabit_52 : decode prog_11_method_6_code 52 = .ok (.aload_n 0, 1) := by decide +kernel
theorem d_R_takeHabit_53 : decode prog_11_method_6_code 53 = .ok (.invokevirtual 116, 3) := by decide +kernel
theorem d_R_takeHabit_56 : decode prog_11_method_6_code 56 = .ok (.aload_n 0, 1) := by decide +kernel
theorem d_R_takeHabit_57 : decode prog_11_method_6_code 57 = .ok (.getfield 54, 3) := by decide +kernel
theorem d_R_takeHabit_60 : decode prog_11_method_6_code 60 = .ok (.ifCond .ne 10, 3) := by decide +kernel
theorem d_R_takeHabit_70 : decode prog_11_method_6_code 70 = .ok (.iconst 0, 1) := by decide +kernel
theorem d_R_takeHabit_71 : decode prog_11_method_6_code 71 = .ok (.istore_n 3, 1) := by decide +kernel
theorem d_R_takeHabit_72 : decode prog_11_method_6_code 72 = .ok (.aload_n 0, 1) := by decide +kernel
theorem d_R_takeHabit_73 : decode prog_11_method_6_code 73 = .ok (.getfield 54, 3) := by decide +kernel
theorem d_R_takeHabit_76 : decode prog_11_method_6_code 76 = .ok (.ifCond .eq 4, 3) := by decide +kernel
theorem d_R_takeHabit_80 : decode prog_11_method_6_code 80 = .ok (.aload_n 0, 1) := by decide +kernel
theorem d_R_takeHabit_81 : decode prog_11_method_6_code 81 = .ok (.getfield 15, 3) := by decide +kernel
theorem d_R_takeHabit_84 : decode prog_11_method_6_code 84 = .ok (.getstatic 105, 3) := by decide +kernel
theorem d_R_takeHabit_87 : decode prog_11_method_6_code 87 = .ok (.if_acmp .eq 9, 3) := by decide +kernel
theorem d_R_takeHabit_96 : decode prog_11_method_6_code 96 = .ok (.aload_n 0, 1) := by decide +kernel
theorem d_R_takeHabit_97 : decode prog_11_method_6_code 97 = .ok (.getfield 41, 3) := by decide +kernel
theorem d_R_takeHabit_100 : decode prog_11_method_6_code 100 = .ok (.iload_n 1, 1) := by decide +kernel
theorem d_R_takeHabit_101 : decode prog_11_method_6_code 101 = .ok (.iload_n 3, 1) := by decide +kernel
theorem d_R_takeHabit_102 : decode prog_11_method_6_code 102 = .ok (.ifCond .ne 8, 3) := by decide +kernel
theorem d_R_takeHabit_110 : decode prog_11_method_6_code 110 = .ok (.iload_n 3, 1) := by decide +kernel
theorem d_R_takeHabit_111 : decode prog_11_method_6_code 111 = .ok (.iload_n 2, 1) := by decide +kernel
theorem d_R_takeHabit_112 : decode prog_11_method_6_code 112 = .ok (.invokevirtual 123, 3) := by decide +kernel
theorem d_R_takeHabit_115 : decode prog_11_method_6_code 115 = .ok (.aload_n 0, 1) := by decide +kernel
theorem d_R_takeHabit_116 : decode prog_11_method_6_code 116 = .ok (.aload_n 0, 1) := by decide +kernel
theorem d_R_takeHabit_117 : decode prog_11_method_6_code 117 = .ok (.getfield 81, 3) := by decide +kernel
theorem d_R_takeHabit_120 : decode prog_11_method_6_code 120 = .ok (.iconst 1, 1) := by decide +kernel
theorem d_R_takeHabit_121 : decode prog_11_method_6_code 121 = .ok (.iadd, 1) := by decide +kernel
theorem d_R_takeHabit_122 : decode prog_11_method_6_code 122 = .ok (.invokevirtual 57, 3) := by decide +kernel
theorem d_R_takeHabit_125 : decode prog_11_method_6_code 125 = .ok (.return_, 1) := by decide +kernel
theorem d_R_takeHabit_105 : decode prog_11_method_6_code 105 = .ok (.bipush 63, 2) := by decide +kernel
theorem d_R_takeHabit_107 : decode prog_11_method_6_code 107 = .ok (.goto 4, 3) := by decide +kernel
theorem d_R_takeHabit_90 : decode prog_11_method_6_code 90 = .ok (.aload_n 0, 1) := by decide +kernel
theorem d_R_takeHabit_91 : decode prog_11_method_6_code 91 = .ok (.iconst 1, 1) := by decide +kernel
theorem d_R_takeHabit_92 : decode prog_11_method_6_code 92 = .ok (.invokevirtual 78, 3) := by decide +kernel
theorem d_R_takeHabit_95 : decode prog_11_method_6_code 95 = .ok (.return_, 1) := by decide +kernel
theorem d_R_takeHabit_79 : decode prog_11_method_6_code 79 = .ok (.return_, 1) := by decide +kernel
theorem d_R_takeHabit_63 : decode prog_11_method_6_code 63 = .ok (.aload_n 0, 1) := by decide +kernel
theorem d_R_takeHabit_64 : decode prog_11_method_6_code 64 = .ok (.invokevirtual 119, 3) := by decide +kernel
theorem d_R_takeHabit_67 : decode prog_11_method_6_code 67 = .ok (.goto 4, 3) := by decide +kernel
theorem d_R_takeHabit_28 : decode prog_11_method_6_code 28 = .ok (.aload_n 0, 1) := by decide +kernel
theorem d_R_takeHabit_29 : decode prog_11_method_6_code 29 = .ok (.iconst 2, 1) := by decide +kernel
theorem d_R_takeHabit_30 : decode prog_11_method_6_code 30 = .ok (.invokevirtual 78, 3) := by decide +kernel
theorem d_R_takeHabit_33 : decode prog_11_method_6_code 33 = .ok (.return_, 1) := by decide +kernel
theorem d_R_takeHabit_10 : decode prog_11_method_6_code 10 = .ok (.iconst 1, 1) := by decide +kernel
theorem d_R_takeHabit_11 : decode prog_11_method_6_code 11 = .ok (.goto 4, 3) := by decide +kernel
theorem d_H_addRule_0 : decode prog_6_method_4_code 0 = .ok (.iconst 0, 1) := by decide +kernel
theorem d_H_addRule_1 : decode prog_6_method_4_code 1 = .ok (.istore_n 3, 1) := by decide +kernel
theorem d_H_addRule_2 : decode prog_6_method_4_code 2 = .ok (.iload_n 3, 1) := by decide +kernel
theorem d_H_addRule_3 : decode prog_6_method_4_code 3 = .ok (.bipush 6, 2) := by decide +kernel
theorem d_H_addRule_5 : decode prog_6_method_4_code 5 = .ok (.if_icmp .ge 24, 3) := by decide +kernel
theorem d_H_addRule_8 : decode prog_6_method_4_code 8 = .ok (.iload_n 2, 1) := by decide +kernel
theorem d_H_addRule_9 : decode prog_6_method_4_code 9 = .ok (.iload_n 3, 1) := by decide +kernel
theorem d_H_addRule_10 : decode prog_6_method_4_code 10 = .ok (.invokestatic 56, 3) := by decide +kernel
theorem d_H_addRule_13 : decode prog_6_method_4_code 13 = .ok (.ifCond .eq 10, 3) := by decide +kernel
theorem d_H_addRule_23 : decode prog_6_method_4_code 23 = .ok (.iinc 3 1, 3) := by decide +kernel
theorem d_H_addRule_26 : decode prog_6_method_4_code 26 = .ok (.goto (-24), 3) := by decide +kernel
theorem d_H_addRule_16 : decode prog_6_method_4_code 16 = .ok (.aload_n 0, 1) := by decide +kernel
theorem d_H_addRule_17 : decode prog_6_method_4_code 17 = .ok (.getfield 11, 3) := by decide +kernel
theorem d_H_addRule_20 : decode prog_6_method_4_code 20 = .ok (.iload_n 3, 1) := by decide +kernel
theorem d_H_addRule_21 : decode prog_6_method_4_code 21 = .ok (.aload_n 1, 1) := by decide +kernel
theorem d_H_addRule_22 : decode prog_6_method_4_code 22 = .ok (.aastore, 1) := by decide +kernel
theorem d_H_addRule_29 : decode prog_6_method_4_code 29 = .ok (.aload_n 0, 1) := by decide +kernel
theorem d_H_addRule_30 : decode prog_6_method_4_code 30 = .ok (.dup, 1) := by decide +kernel
theorem d_H_addRule_31 : decode prog_6_method_4_code 31 = .ok (.getfield 40, 3) := by decide +kernel
theorem d_H_addRule_34 : decode prog_6_method_4_code 34 = .ok (.iload_n 2, 1) := by decide +kernel
theorem d_H_addRule_35 : decode prog_6_method_4_code 35 = .ok (.ior, 1) := by decide +kernel
theorem d_H_addRule_36 : decode prog_6_method_4_code 36 = .ok (.putfield 40, 3) := by decide +kernel
theorem d_H_addRule_39 : decode prog_6_method_4_code 39 = .ok (.aload_n 0, 1) := by decide +kernel
theorem d_H_addRule_40 : decode prog_6_method_4_code 40 = .ok (.dup, 1) := by decide +kernel
theorem d_H_addRule_41 : decode prog_6_method_4_code 41 = .ok (.getfield 44, 3) := by decide +kernel
theorem d_H_addRule_44 : decode prog_6_method_4_code 44 = .ok (.iconst 1, 1) := by decide +kernel
theorem d_H_addRule_45 : decode prog_6_method_4_code 45 = .ok (.iadd, 1) := by decide +kernel
theorem d_H_addRule_46 : decode prog_6_method_4_code 46 = .ok (.putfield 44, 3) := by decide +kernel
theorem d_H_addRule_49 : decode prog_6_method_4_code 49 = .ok (.return_, 1) := by decide +kernel
theorem d_R_takeRule_0 : decode prog_11_method_5_code 0 = .ok (.aload_n 0, 1) := by decide +kernel
theorem d_R_takeRule_1 : decode prog_11_method_5_code 1 = .ok (.aload_n 0, 1) := by decide +kernel
theorem d_R_takeRule_2 : decode prog_11_method_5_code 2 = .ok (.getfield 81, 3) := by decide +kernel
theorem d_R_takeRule_5 : decode prog_11_method_5_code 5 = .ok (.iconst 1, 1) := by decide +kernel
theorem d_R_takeRule_6 : decode prog_11_method_5_code 6 = .ok (.iadd, 1) := by decide +kernel
theorem d_R_takeRule_7 : decode prog_11_method_5_code 7 = .ok (.invokevirtual 57, 3) := by decide +kernel
theorem d_R_takeRule_10 : decode prog_11_method_5_code 10 = .ok (.aload_n 0, 1) := by decide +kernel
theorem d_R_takeRule_11 : decode prog_11_method_5_code 11 = .ok (.getfield 15, 3) := by decide +kernel
theorem d_R_takeRule_14 : decode prog_11_method_5_code 14 = .ok (.astore_n 1, 1) := by decide +kernel
theorem d_R_takeRule_15 : decode prog_11_method_5_code 15 = .ok (.aload_n 1, 1) := by decide +kernel
theorem d_R_takeRule_16 : decode prog_11_method_5_code 16 = .ok (.getfield 95, 3) := by decide +kernel
theorem d_R_takeRule_19 : decode prog_11_method_5_code 19 = .ok (.iconst 1, 1) := by decide +kernel
theorem d_R_takeRule_20 : decode prog_11_method_5_code 20 = .ok (.if_icmp .eq 9, 3) := by decide +kernel
theorem d_R_takeRule_29 : decode prog_11_method_5_code 29 = .ok (.aload_n 0, 1) := by decide +kernel
theorem d_R_takeRule_30 : decode prog_11_method_5_code 30 = .ok (.aload_n 0, 1) := by decide +kernel
theorem d_R_takeRule_31 : decode prog_11_method_5_code 31 = .ok (.getfield 81, 3) := by decide +kernel
theorem d_R_takeRule_34 : decode prog_11_method_5_code 34 = .ok (.iconst 1, 1) := by decide +kernel
theorem d_R_takeRule_35 : decode prog_11_method_5_code 35 = .ok (.iadd, 1) := by decide +kernel
theorem d_R_takeRule_36 : decode prog_11_method_5_code 36 = .ok (.invokevirtual 57, 3) := by decide +kernel
theorem d_R_takeRule_39 : decode prog_11_method_5_code 39 = .ok (.aload_n 0, 1) := by decide +kernel
theorem d_R_takeRule_40 : decode prog_11_method_5_code 40 = .ok (.aload_n 0, 1) := by decide +kernel
theorem d_R_takeRule_41 : decode prog_11_method_5_code 41 = .ok (.getfield 41, 3) := by decide +kernel
theorem d_R_takeRule_44 : decode prog_11_method_5_code 44 = .ok (.getfield 98, 3) := by decide +kernel
theorem d_R_takeRule_47 : decode prog_11_method_5_code 47 = .ok (.invokevirtual 101, 3) := by decide +kernel
theorem d_R_takeRule_50 : decode prog_11_method_5_code 50 = .ok (.istore_n 2, 1) := by decide +kernel
theorem d_R_takeRule_51 : decode prog_11_method_5_code 51 = .ok (.aload_n 0, 1) := by decide +kernel
theorem d_R_takeRule_52 : decode prog_11_method_5_code 52 = .ok (.getfield 54, 3) := by decide +kernel
theorem d_R_takeRule_55 : decode prog_11_method_5_code 55 = .ok (.ifCond .eq 4, 3) := by decide +kernel
theorem d_R_takeRule_59 : decode prog_11_method_5_code 59 = .ok (.aload_n 0, 1) := by decide +kernel
theorem d_R_takeRule_60 : decode prog_11_method_5_code 60 = .ok (.getfield 15, 3) := by decide +kernel
theorem d_R_takeRule_63 : decode prog_11_method_5_code 63 = .ok (.getstatic 105, 3) := by decide +kernel
theorem d_R_takeRule_66 : decode prog_11_method_5_code 66 = .ok (.if_acmp .eq 11, 3) := by decide +kernel
theorem d_R_takeRule_77 : decode prog_11_method_5_code 77 = .ok (.iload_n 2, 1) := by decide +kernel
theorem d_R_takeRule_78 : decode prog_11_method_5_code 78 = .ok (.ifCond .ne 21, 3) := by decide +kernel
theorem d_R_takeRule_99 : decode prog_11_method_5_code 99 = .ok (.aload_n 0, 1) := by decide +kernel
theorem d_R_takeRule_100 : decode prog_11_method_5_code 100 = .ok (.getfield 41, 3) := by decide +kernel
theorem d_R_takeRule_103 : decode prog_11_method_5_code 103 = .ok (.aload_n 1, 1) := by decide +kernel
theorem d_R_takeRule_104 : decode prog_11_method_5_code 104 = .ok (.iload_n 2, 1) := by decide +kernel
theorem d_R_takeRule_105 : decode prog_11_method_5_code 105 = .ok (.ifCond .ne 8, 3) := by decide +kernel
theorem d_R_takeRule_113 : decode prog_11_method_5_code 113 = .ok (.iload_n 2, 1) := by decide +kernel
theorem d_R_takeRule_114 : decode prog_11_method_5_code 114 = .ok (.invokevirtual 108, 3) := by decide +kernel
theorem d_R_takeRule_117 : decode prog_11_method_5_code 117 = .ok (.aload_n 0, 1) := by decide +kernel
theorem d_R_takeRule_118 : decode prog_11_method_5_code 118 = .ok (.aload_n 0, 1) := by decide +kernel
theorem d_R_takeRule_119 : decode prog_11_method_5_code 119 = .ok (.getfield 81, 3) := by decide +kernel
theorem d_R_takeRule_122 : decode prog_11_method_5_code 122 = .ok (.iconst 1, 1) := by decide +kernel
theorem d_R_takeRule_123 : decode prog_11_method_5_code 123 = .ok (.iadd, 1) := by decide +kernel
theorem d_R_takeRule_124 : decode prog_11_method_5_code 124 = .ok (.invokevirtual 57, 3) := by decide +kernel
theorem d_R_takeRule_127 : decode prog_11_method_5_code 127 = .ok (.return_, 1) := by decide +kernel
theorem d_R_takeRule_108 : decode prog_11_method_5_code 108 = .ok (.bipush 63, 2) := by decide +kernel
theorem d_R_takeRule_110 : decode prog_11_method_5_code 110 = .ok (.goto 4, 3) := by decide +kernel
theorem d_R_takeRule_81 : decode prog_11_method_5_code 81 = .ok (.aload_n 0, 1) := by decide +kernel
theorem d_R_takeRule_82 : decode prog_11_method_5_code 82 = .ok (.getfield 41, 3) := by decide +kernel
theorem d_R_takeRule_85 : decode prog_11_method_5_code 85 = .ok (.getfield 98, 3) := by decide +kernel
theorem d_R_takeRule_88 : decode prog_11_method_5_code 88 = .ok (.ifCond .eq 11, 3) := by decide +kernel
theorem d_R_takeRule_91 : decode prog_11_method_5_code 91 = .ok (.aload_n 0, 1) := by decide +kernel
theorem d_R_takeRule_92 : decode prog_11_method_5_code 92 = .ok (.iconst 3, 1) := by decide +kernel
theorem d_R_takeRule_93 : decode prog_11_method_5_code 93 = .ok (.invokevirtual 78, 3) := by decide +kernel
theorem d_R_takeRule_96 : decode prog_11_method_5_code 96 = .ok (.goto 31, 3) := by decide +kernel
theorem d_R_takeRule_69 : decode prog_11_method_5_code 69 = .ok (.aload_n 0, 1) := by decide +kernel
theorem d_R_takeRule_70 : decode prog_11_method_5_code 70 = .ok (.iconst 1, 1) := by decide +kernel
theorem d_R_takeRule_71 : decode prog_11_method_5_code 71 = .ok (.invokevirtual 78, 3) := by decide +kernel
theorem d_R_takeRule_74 : decode prog_11_method_5_code 74 = .ok (.goto 53, 3) := by decide +kernel
theorem d_R_takeRule_58 : decode prog_11_method_5_code 58 = .ok (.return_, 1) := by decide +kernel
theorem d_R_takeRule_23 : decode prog_11_method_5_code 23 = .ok (.aload_n 0, 1) := by decide +kernel
theorem d_R_takeRule_24 : decode prog_11_method_5_code 24 = .ok (.iconst 1, 1) := by decide +kernel
theorem d_R_takeRule_25 : decode prog_11_method_5_code 25 = .ok (.invokevirtual 78, 3) := by decide +kernel
theorem d_R_takeRule_28 : decode prog_11_method_5_code 28 = .ok (.return_, 1) := by decide +kernel
theorem d_R_takes_0 : decode prog_11_method_2_code 0 = .ok (.aload_n 0, 1) := by decide +kernel
theorem d_R_takes_1 : decode prog_11_method_2_code 1 = .ok (.getfield 37, 3) := by decide +kernel
theorem d_R_takes_4 : decode prog_11_method_2_code 4 = .ok (.iload_n 1, 1) := by decide +kernel
theorem d_R_takes_5 : decode prog_11_method_2_code 5 = .ok (.invokevirtual 45, 3) := by decide +kernel
theorem d_R_takes_8 : decode prog_11_method_2_code 8 = .ok (.aload_n 0, 1) := by decide +kernel
theorem d_R_takes_9 : decode prog_11_method_2_code 9 = .ok (.aload_n 2, 1) := by decide +kernel
theorem d_R_takes_10 : decode prog_11_method_2_code 10 = .ok (.putfield 41, 3) := by decide +kernel
theorem d_R_takes_13 : decode prog_11_method_2_code 13 = .ok (.aload_n 0, 1) := by decide +kernel
theorem d_R_takes_14 : decode prog_11_method_2_code 14 = .ok (.getfield 41, 3) := by decide +kernel
theorem d_R_takes_17 : decode prog_11_method_2_code 17 = .ok (.invokevirtual 49, 3) := by decide +kernel
theorem d_R_takes_20 : decode prog_11_method_2_code 20 = .ok (.aload_n 0, 1) := by decide +kernel
theorem d_R_takes_21 : decode prog_11_method_2_code 21 = .ok (.iconst 0, 1) := by decide +kernel
theorem d_R_takes_22 : decode prog_11_method_2_code 22 = .ok (.putfield 54, 3) := by decide +kernel
theorem d_R_takes_25 : decode prog_11_method_2_code 25 = .ok (.aload_n 0, 1) := by decide +kernel
theorem d_R_takes_26 : decode prog_11_method_2_code 26 = .ok (.iconst (-1), 1) := by decide +kernel
theorem d_R_takes_27 : decode prog_11_method_2_code 27 = .ok (.putfield 20, 3) := by decide +kernel
theorem d_R_takes_30 : decode prog_11_method_2_code 30 = .ok (.aload_n 0, 1) := by decide +kernel
theorem d_R_takes_31 : decode prog_11_method_2_code 31 = .ok (.iconst 0, 1) := by decide +kernel
theorem d_R_takes_32 : decode prog_11_method_2_code 32 = .ok (.invokevirtual 57, 3) := by decide +kernel
theorem d_R_takes_35 : decode prog_11_method_2_code 35 = .ok (.iconst 0, 1) := by decide +kernel
theorem d_R_takes_36 : decode prog_11_method_2_code 36 = .ok (.istore_n 3, 1) := by decide +kernel
theorem d_R_takes_37 : decode prog_11_method_2_code 37 = .ok (.iload_n 3, 1) := by decide +kernel
theorem d_R_takes_38 : decode prog_11_method_2_code 38 = .ok (.aload_n 0, 1) := by decide +kernel
theorem d_R_takes_39 : decode prog_11_method_2_code 39 = .ok (.getfield 37, 3) := by decide +kernel
theorem d_R_takes_42 : decode prog_11_method_2_code 42 = .ok (.getfield 60, 3) := by decide +kernel
theorem d_R_takes_45 : decode prog_11_method_2_code 45 = .ok (.if_icmp .ge 75, 3) := by decide +kernel
theorem d_R_takes_48 : decode prog_11_method_2_code 48 = .ok (.aload_n 0, 1) := by decide +kernel
theorem d_R_takes_49 : decode prog_11_method_2_code 49 = .ok (.getfield 54, 3) := by decide +kernel
theorem d_R_takes_52 : decode prog_11_method_2_code 52 = .ok (.ifCond .ne 68, 3) := by decide +kernel
theorem d_R_takes_55 : decode prog_11_method_2_code 55 = .ok (.aload_n 0, 1) := by decide +kernel
theorem d_R_takes_56 : decode prog_11_method_2_code 56 = .ok (.getfield 15, 3) := by decide +kernel
theorem d_R_takes_59 : decode prog_11_method_2_code 59 = .ok (.getstatic 9, 3) := by decide +kernel
theorem d_R_takes_62 : decode prog_11_method_2_code 62 = .ok (.if_acmp .eq 58, 3) := by decide +kernel
theorem d_R_takes_65 : decode prog_11_method_2_code 65 = .ok (.aload_n 0, 1) := by decide +kernel
theorem d_R_takes_66 : decode prog_11_method_2_code 66 = .ok (.getfield 15, 3) := by decide +kernel
theorem d_R_takes_69 : decode prog_11_method_2_code 69 = .ok (.getstatic 63, 3) := by decide +kernel
theorem d_R_takes_72 : decode prog_11_method_2_code 72 = .ok (.if_acmp .ne 10, 3) := by decide +kernel
theorem d_R_takes_82 : decode prog_11_method_2_code 82 = .ok (.aload_n 0, 1) := by decide +kernel
theorem d_R_takes_83 : decode prog_11_method_2_code 83 = .ok (.getfield 15, 3) := by decide +kernel
theorem d_R_takes_86 : decode prog_11_method_2_code 86 = .ok (.getstatic 69, 3) := by decide +kernel
theorem d_R_takes_89 : decode prog_11_method_2_code 89 = .ok (.if_acmp .eq 13, 3) := by decide +kernel
theorem d_R_takes_102 : decode prog_11_method_2_code 102 = .ok (.aload_n 0, 1) := by decide +kernel
theorem d_R_takes_103 : decode prog_11_method_2_code 103 = .ok (.invokevirtual 75, 3) := by decide +kernel
theorem d_R_takes_106 : decode prog_11_method_2_code 106 = .ok (.goto 8, 3) := by decide +kernel
theorem d_R_takes_114 : decode prog_11_method_2_code 114 = .ok (.iinc 3 1, 3) := by decide +kernel
theorem d_R_takes_117 : decode prog_11_method_2_code 117 = .ok (.goto (-80), 3) := by decide +kernel
theorem d_R_takes_92 : decode prog_11_method_2_code 92 = .ok (.aload_n 0, 1) := by decide +kernel
theorem d_R_takes_93 : decode prog_11_method_2_code 93 = .ok (.getfield 15, 3) := by decide +kernel
theorem d_R_takes_96 : decode prog_11_method_2_code 96 = .ok (.getstatic 72, 3) := by decide +kernel
theorem d_R_takes_99 : decode prog_11_method_2_code 99 = .ok (.if_acmp .ne 10, 3) := by decide +kernel
theorem d_R_takes_109 : decode prog_11_method_2_code 109 = .ok (.aload_n 0, 1) := by decide +kernel
theorem d_R_takes_110 : decode prog_11_method_2_code 110 = .ok (.iconst 1, 1) := by decide +kernel
theorem d_R_takes_111 : decode prog_11_method_2_code 111 = .ok (.invokevirtual 78, 3) := by decide +kernel
theorem d_R_takes_75 : decode prog_11_method_2_code 75 = .ok (.aload_n 0, 1) := by decide +kernel
theorem d_R_takes_76 : decode prog_11_method_2_code 76 = .ok (.invokevirtual 66, 3) := by decide +kernel
theorem d_R_takes_79 : decode prog_11_method_2_code 79 = .ok (.goto 35, 3) := by decide +kernel
theorem d_R_takes_120 : decode prog_11_method_2_code 120 = .ok (.aload_n 0, 1) := by decide +kernel
theorem d_R_takes_121 : decode prog_11_method_2_code 121 = .ok (.getfield 54, 3) := by decide +kernel
theorem d_R_takes_124 : decode prog_11_method_2_code 124 = .ok (.ifCond .ne 7, 3) := by decide +kernel
theorem d_R_takes_131 : decode prog_11_method_2_code 131 = .ok (.iconst 0, 1) := by decide +kernel
theorem d_R_takes_132 : decode prog_11_method_2_code 132 = .ok (.ireturn, 1) := by decide +kernel
theorem d_R_takes_127 : decode prog_11_method_2_code 127 = .ok (.iconst 1, 1) := by decide +kernel
theorem d_R_takes_128 : decode prog_11_method_2_code 128 = .ok (.goto 4, 3) := by decide +kernel
theorem d_C_text_0 : decode prog_1_method_3_code 0 = .ok (.iload_n 1, 1) := by decide +kernel
theorem d_C_text_1 : decode prog_1_method_3_code 1 = .ok (.ifCond .lt 11, 3) := by decide +kernel
theorem d_C_text_12 : decode prog_1_method_3_code 12 = .ok (.bipush (-2), 2) := by decide +kernel
theorem d_C_text_14 : decode prog_1_method_3_code 14 = .ok (.ireturn, 1) := by decide +kernel
theorem d_C_text_4 : decode prog_1_method_3_code 4 = .ok (.iload_n 1, 1) := by decide +kernel
theorem d_C_text_5 : decode prog_1_method_3_code 5 = .ok (.aload_n 0, 1) := by decide +kernel
theorem d_C_text_6 : decode prog_1_method_3_code 6 = .ok (.getfield 81, 3) := by decide +kernel
theorem d_C_text_9 : decode prog_1_method_3_code 9 = .ok (.if_icmp .le 6, 3) := by decide +kernel
theorem d_C_text_15 : decode prog_1_method_3_code 15 = .ok (.aload_n 0, 1) := by decide +kernel
theorem d_C_text_16 : decode prog_1_method_3_code 16 = .ok (.iconst 0, 1) := by decide +kernel
theorem d_C_text_17 : decode prog_1_method_3_code 17 = .ok (.putfield 81, 3) := by decide +kernel
theorem d_C_text_20 : decode prog_1_method_3_code 20 = .ok (.aload_n 0, 1) := by decide +kernel
theorem d_C_text_21 : decode prog_1_method_3_code 21 = .ok (.getfield 28, 3) := by decide +kernel
theorem d_C_text_24 : decode prog_1_method_3_code 24 = .ok (.iload_n 1, 1) := by decide +kernel
theorem d_C_text_25 : decode prog_1_method_3_code 25 = .ok (.aload_n 0, 1) := by decide +kernel
theorem d_C_text_26 : decode prog_1_method_3_code 26 = .ok (.getfield 20, 3) := by decide +kernel
theorem d_C_text_29 : decode prog_1_method_3_code 29 = .ok (.invokevirtual 89, 3) := by decide +kernel
theorem d_C_text_32 : decode prog_1_method_3_code 32 = .ok (.ifCond .ne 5, 3) := by decide +kernel
theorem d_C_text_37 : decode prog_1_method_3_code 37 = .ok (.aload_n 0, 1) := by decide +kernel
theorem d_C_text_38 : decode prog_1_method_3_code 38 = .ok (.getfield 16, 3) := by decide +kernel
theorem d_C_text_41 : decode prog_1_method_3_code 41 = .ok (.astore_n 2, 1) := by decide +kernel
theorem d_C_text_42 : decode prog_1_method_3_code 42 = .ok (.aload_n 0, 1) := by decide +kernel
theorem d_C_text_43 : decode prog_1_method_3_code 43 = .ok (.aload_n 0, 1) := by decide +kernel
theorem d_C_text_44 : decode prog_1_method_3_code 44 = .ok (.getfield 20, 3) := by decide +kernel
theorem d_C_text_47 : decode prog_1_method_3_code 47 = .ok (.putfield 16, 3) := by decide +kernel
theorem d_C_text_50 : decode prog_1_method_3_code 50 = .ok (.aload_n 0, 1) := by decide +kernel
theorem d_C_text_51 : decode prog_1_method_3_code 51 = .ok (.aload_n 2, 1) := by decide +kernel
theorem d_C_text_52 : decode prog_1_method_3_code 52 = .ok (.putfield 20, 3) := by decide +kernel
theorem d_C_text_55 : decode prog_1_method_3_code 55 = .ok (.aload_n 0, 1) := by decide +kernel
theorem d_C_text_56 : decode prog_1_method_3_code 56 = .ok (.getfield 16, 3) := by decide +kernel
theorem d_C_text_59 : decode prog_1_method_3_code 59 = .ok (.getfield 93, 3) := by decide +kernel
theorem d_C_text_62 : decode prog_1_method_3_code 62 = .ok (.ireturn, 1) := by decide +kernel
theorem d_C_text_35 : decode prog_1_method_3_code 35 = .ok (.iconst (-1), 1) := by decide +kernel
theorem d_C_text_36 : decode prog_1_method_3_code 36 = .ok (.ireturn, 1) := by decide +kernel
theorem d_C_fault_0 : decode prog_1_method_4_code 0 = .ok (.iload_n 1, 1) := by decide +kernel
theorem d_C_fault_1 : decode prog_1_method_4_code 1 = .ok (.ifCond .ne 11, 3) := by decide +kernel
theorem d_C_fault_12 : decode prog_1_method_4_code 12 = .ok (.iload_n 1, 1) := by decide +kernel
theorem d_C_fault_13 : decode prog_1_method_4_code 13 = .ok (.iconst 1, 1) := by decide +kernel
theorem d_C_fault_14 : decode prog_1_method_4_code 14 = .ok (.if_icmp .ne 13, 3) := by decide +kernel
theorem d_C_fault_27 : decode prog_1_method_4_code 27 = .ok (.iconst (-1), 1) := by decide +kernel
theorem d_C_fault_28 : decode prog_1_method_4_code 28 = .ok (.ireturn, 1) := by decide +kernel
theorem d_C_fault_17 : decode prog_1_method_4_code 17 = .ok (.aload_n 0, 1) := by decide +kernel
theorem d_C_fault_18 : decode prog_1_method_4_code 18 = .ok (.getfield 28, 3) := by decide +kernel
theorem d_C_fault_21 : decode prog_1_method_4_code 21 = .ok (.getfield 99, 3) := by decide +kernel
theorem d_C_fault_24 : decode prog_1_method_4_code 24 = .ok (.goto 4, 3) := by decide +kernel
theorem d_C_fault_4 : decode prog_1_method_4_code 4 = .ok (.aload_n 0, 1) := by decide +kernel
theorem d_C_fault_5 : decode prog_1_method_4_code 5 = .ok (.getfield 28, 3) := by decide +kernel
theorem d_C_fault_8 : decode prog_1_method_4_code 8 = .ok (.getfield 96, 3) := by decide +kernel
theorem d_C_fault_11 : decode prog_1_method_4_code 11 = .ok (.ireturn, 1) := by decide +kernel
theorem d_C_isWriter_0 : decode prog_1_method_42_code 0 = .ok (.iload_n 0, 1) := by decide +kernel
theorem d_C_isWriter_1 : decode prog_1_method_42_code 1 = .ok (.ifCond .lt 13, 3) := by decide +kernel
theorem d_C_isWriter_14 : decode prog_1_method_42_code 14 = .ok (.iconst 0, 1) := by decide +kernel
theorem d_C_isWriter_15 : decode prog_1_method_42_code 15 = .ok (.ireturn, 1) := by decide +kernel
theorem d_C_isWriter_4 : decode prog_1_method_42_code 4 = .ok (.iload_n 0, 1) := by decide +kernel
theorem d_C_isWriter_5 : decode prog_1_method_42_code 5 = .ok (.bipush 6, 2) := by decide +kernel
theorem d_C_isWriter_7 : decode prog_1_method_42_code 7 = .ok (.if_icmp .ge 7, 3) := by decide +kernel
theorem d_C_isWriter_10 : decode prog_1_method_42_code 10 = .ok (.iconst 1, 1) := by decide +kernel
theorem d_C_isWriter_11 : decode prog_1_method_42_code 11 = .ok (.goto 4, 3) := by decide +kernel
theorem d_P_shortenBy_0 : decode prog_9_method_5_code 0 = .ok (.iconst 0, 1) := by decide +kernel
theorem d_P_shortenBy_1 : decode prog_9_method_5_code 1 = .ok (.istore_n 2, 1) := by decide +kernel
theorem d_P_shortenBy_2 : decode prog_9_method_5_code 2 = .ok (.iload_n 2, 1) := by decide +kernel
theorem d_P_shortenBy_3 : decode prog_9_method_5_code 3 = .ok (.bipush 6, 2) := by decide +kernel
theorem d_P_shortenBy_5 : decode prog_9_method_5_code 5 = .ok (.if_icmp .ge 59, 3) := by decide +kernel
theorem d_P_shortenBy_8 : decode prog_9_method_5_code 8 = .ok (.iconst 0, 1) := by decide +kernel
theorem d_P_shortenBy_9 : decode prog_9_method_5_code 9 = .ok (.istore_n 3, 1) := by decide +kernel
theorem d_P_shortenBy_10 : decode prog_9_method_5_code 10 = .ok (.iload_n 3, 1) := by decide +kernel
theorem d_P_shortenBy_11 : decode prog_9_method_5_code 11 = .ok (.bipush 6, 2) := by decide +kernel
theorem d_P_shortenBy_13 : decode prog_9_method_5_code 13 = .ok (.if_icmp .ge 45, 3) := by decide +kernel
theorem d_P_shortenBy_16 : decode prog_9_method_5_code 16 = .ok (.aload_n 0, 1) := by decide +kernel
theorem d_P_shortenBy_17 : decode prog_9_method_5_code 17 = .ok (.getfield 16, 3) := by decide +kernel
theorem d_P_shortenBy_20 : decode prog_9_method_5_code 20 = .ok (.iload_n 2, 1) := by decide +kernel
theorem d_P_shortenBy_21 : decode prog_9_method_5_code 21 = .ok (.aaload, 1) := by decide +kernel
theorem d_P_shortenBy_22 : decode prog_9_method_5_code 22 = .ok (.iload_n 3, 1) := by decide +kernel
theorem d_P_shortenBy_23 : decode prog_9_method_5_code 23 = .ok (.aload_n 0, 1) := by decide +kernel
theorem d_P_shortenBy_24 : decode prog_9_method_5_code 24 = .ok (.getfield 16, 3) := by decide +kernel
theorem d_P_shortenBy_27 : decode prog_9_method_5_code 27 = .ok (.iload_n 2, 1) := by decide +kernel
theorem d_P_shortenBy_28 : decode prog_9_method_5_code 28 = .ok (.aaload, 1) := by decide +kernel
theorem d_P_shortenBy_29 : decode prog_9_method_5_code 29 = .ok (.iload_n 3, 1) := by decide +kernel
theorem d_P_shortenBy_30 : decode prog_9_method_5_code 30 = .ok (.iaload, 1) := by decide +kernel
theorem d_P_shortenBy_31 : decode prog_9_method_5_code 31 = .ok (.aload_n 0, 1) := by decide +kernel
theorem d_P_shortenBy_32 : decode prog_9_method_5_code 32 = .ok (.getfield 16, 3) := by decide +kernel
theorem d_P_shortenBy_35 : decode prog_9_method_5_code 35 = .ok (.iload_n 2, 1) := by decide +kernel
theorem d_P_shortenBy_36 : decode prog_9_method_5_code 36 = .ok (.aaload, 1) := by decide +kernel
theorem d_P_shortenBy_37 : decode prog_9_method_5_code 37 = .ok (.iload_n 1, 1) := by decide +kernel
theorem d_P_shortenBy_38 : decode prog_9_method_5_code 38 = .ok (.iaload, 1) := by decide +kernel
theorem d_P_shortenBy_39 : decode prog_9_method_5_code 39 = .ok (.aload_n 0, 1) := by decide +kernel
theorem d_P_shortenBy_40 : decode prog_9_method_5_code 40 = .ok (.getfield 16, 3) := by decide +kernel
theorem d_P_shortenBy_43 : decode prog_9_method_5_code 43 = .ok (.iload_n 1, 1) := by decide +kernel
theorem d_P_shortenBy_44 : decode prog_9_method_5_code 44 = .ok (.aaload, 1) := by decide +kernel
theorem d_P_shortenBy_45 : decode prog_9_method_5_code 45 = .ok (.iload_n 3, 1) := by decide +kernel
theorem d_P_shortenBy_46 : decode prog_9_method_5_code 46 = .ok (.iaload, 1) := by decide +kernel
theorem d_P_shortenBy_47 : decode prog_9_method_5_code 47 = .ok (.iadd, 1) := by decide +kernel
theorem d_P_shortenBy_48 : decode prog_9_method_5_code 48 = .ok (.invokestatic 53, 3) := by decide +kernel
theorem d_P_shortenBy_51 : decode prog_9_method_5_code 51 = .ok (.iastore, 1) := by decide +kernel
theorem d_P_shortenBy_52 : decode prog_9_method_5_code 52 = .ok (.iinc 3 1, 3) := by decide +kernel
theorem d_P_shortenBy_55 : decode prog_9_method_5_code 55 = .ok (.goto (-45), 3) := by decide +kernel
theorem d_P_shortenBy_58 : decode prog_9_method_5_code 58 = .ok (.iinc 2 1, 3) := by decide +kernel
theorem d_P_shortenBy_61 : decode prog_9_method_5_code 61 = .ok (.goto (-59), 3) := by decide +kernel
theorem d_P_shortenBy_64 : decode prog_9_method_5_code 64 = .ok (.return_, 1) := by decide +kernel
theorem d_P_setWay_0 : decode prog_9_method_4_code 0 = .ok (.aload_n 0, 1) := by decide +kernel
theorem d_P_setWay_1 : decode prog_9_method_4_code 1 = .ok (.getfield 11, 3) := by decide +kernel
theorem d_P_setWay_4 : decode prog_9_method_4_code 4 = .ok (.iload_n 1, 1) := by decide +kernel
theorem d_P_setWay_5 : decode prog_9_method_4_code 5 = .ok (.aaload, 1) := by decide +kernel
theorem d_P_setWay_6 : decode prog_9_method_4_code 6 = .ok (.iload_n 2, 1) := by decide +kernel
theorem d_P_setWay_7 : decode prog_9_method_4_code 7 = .ok (.iload_n 3, 1) := by decide +kernel
theorem d_P_setWay_8 : decode prog_9_method_4_code 8 = .ok (.iastore, 1) := by decide +kernel
theorem d_P_setWay_9 : decode prog_9_method_4_code 9 = .ok (.aload_n 0, 1) := by decide +kernel
theorem d_P_setWay_10 : decode prog_9_method_4_code 10 = .ok (.getfield 11, 3) := by decide +kernel
theorem d_P_setWay_13 : decode prog_9_method_4_code 13 = .ok (.iload_n 2, 1) := by decide +kernel
theorem d_P_setWay_14 : decode prog_9_method_4_code 14 = .ok (.aaload, 1) := by decide +kernel
theorem d_P_setWay_15 : decode prog_9_method_4_code 15 = .ok (.iload_n 1, 1) := by decide +kernel
theorem d_P_setWay_16 : decode prog_9_method_4_code 16 = .ok (.iload_n 3, 1) := by decide +kernel
theorem d_P_setWay_17 : decode prog_9_method_4_code 17 = .ok (.iastore, 1) := by decide +kernel
theorem d_P_setWay_18 : decode prog_9_method_4_code 18 = .ok (.iconst 0, 1) := by decide +kernel
theorem d_P_setWay_19 : decode prog_9_method_4_code 19 = .ok (.istore 4, 2) := by decide +kernel
theorem d_P_setWay_21 : decode prog_9_method_4_code 21 = .ok (.iload 4, 2) := by decide +kernel
theorem d_P_setWay_23 : decode prog_9_method_4_code 23 = .ok (.bipush 6, 2) := by decide +kernel
theorem d_P_setWay_25 : decode prog_9_method_4_code 25 = .ok (.if_icmp .ge 30, 3) := by decide +kernel
theorem d_P_setWay_28 : decode prog_9_method_4_code 28 = .ok (.aload_n 0, 1) := by decide +kernel
theorem d_P_setWay_29 : decode prog_9_method_4_code 29 = .ok (.getfield 11, 3) := by decide +kernel
theorem d_P_setWay_32 : decode prog_9_method_4_code 32 = .ok (.iload 4, 2) := by decide +kernel
theorem d_P_setWay_34 : decode prog_9_method_4_code 34 = .ok (.aaload, 1) := by decide +kernel
theorem d_P_setWay_35 : decode prog_9_method_4_code 35 = .ok (.iconst 0, 1) := by decide +kernel
theorem d_P_setWay_36 : decode prog_9_method_4_code 36 = .ok (.aload_n 0, 1) := by decide +kernel
theorem d_P_setWay_37 : decode prog_9_method_4_code 37 = .ok (.getfield 16, 3) := by decide +kernel
theorem d_P_setWay_40 : decode prog_9_method_4_code 40 = .ok (.iload 4, 2) := by decide +kernel
theorem d_P_setWay_42 : decode prog_9_method_4_code 42 = .ok (.aaload, 1) := by decide +kernel
theorem d_P_setWay_43 : decode prog_9_method_4_code 43 = .ok (.iconst 0, 1) := by decide +kernel
theorem d_P_setWay_44 : decode prog_9_method_4_code 44 = .ok (.bipush 6, 2) := by decide +kernel
theorem d_P_setWay_46 : decode prog_9_method_4_code 46 = .ok (.invokestatic 43, 3) := by decide +kernel
theorem d_P_setWay_49 : decode prog_9_method_4_code 49 = .ok (.iinc 4 1, 3) := by decide +kernel
theorem d_P_setWay_52 : decode prog_9_method_4_code 52 = .ok (.goto (-31), 3) := by decide +kernel
theorem d_P_setWay_55 : decode prog_9_method_4_code 55 = .ok (.iconst 0, 1) := by decide +kernel
theorem d_P_setWay_56 : decode prog_9_method_4_code 56 = .ok (.istore 4, 2) := by decide +kernel
theorem d_P_setWay_58 : decode prog_9_method_4_code 58 = .ok (.iload 4, 2) := by decide +kernel
theorem d_P_setWay_60 : decode prog_9_method_4_code 60 = .ok (.bipush 6, 2) := by decide +kernel
theorem d_P_setWay_62 : decode prog_9_method_4_code 62 = .ok (.if_icmp .ge 15, 3) := by decide +kernel
theorem d_P_setWay_65 : decode prog_9_method_4_code 65 = .ok (.aload_n 0, 1) := by decide +kernel
theorem d_P_setWay_66 : decode prog_9_method_4_code 66 = .ok (.iload 4, 2) := by decide +kernel
theorem d_P_setWay_68 : decode prog_9_method_4_code 68 = .ok (.invokevirtual 49, 3) := by decide +kernel
theorem d_P_setWay_71 : decode prog_9_method_4_code 71 = .ok (.iinc 4 1, 3) := by decide +kernel
theorem d_P_setWay_74 : decode prog_9_method_4_code 74 = .ok (.goto (-16), 3) := by decide +kernel
theorem d_P_setWay_77 : decode prog_9_method_4_code 77 = .ok (.return_, 1) := by decide +kernel
theorem d_C_way_0 : decode prog_1_method_5_code 0 = .ok (.iload_n 1, 1) := by decide +kernel
theorem d_C_way_1 : decode prog_1_method_5_code 1 = .ok (.invokestatic 102, 3) := by decide +kernel
theorem d_C_way_4 : decode prog_1_method_5_code 4 = .ok (.ifCond .eq 26, 3) := by decide +kernel
theorem d_C_way_30 : decode prog_1_method_5_code 30 = .ok (.iconst 0, 1) := by decide +kernel
theorem d_C_way_31 : decode prog_1_method_5_code 31 = .ok (.ireturn, 1) := by decide +kernel
theorem d_C_way_7 : decode prog_1_method_5_code 7 = .ok (.iload_n 2, 1) := by decide +kernel
theorem d_C_way_8 : decode prog_1_method_5_code 8 = .ok (.invokestatic 102, 3) := by decide +kernel
theorem d_C_way_11 : decode prog_1_method_5_code 11 = .ok (.ifCond .eq 19, 3) := by decide +kernel
theorem d_C_way_14 : decode prog_1_method_5_code 14 = .ok (.iload_n 1, 1) := by decide +kernel
theorem d_C_way_15 : decode prog_1_method_5_code 15 = .ok (.iload_n 2, 1) := by decide +kernel
theorem d_C_way_16 : decode prog_1_method_5_code 16 = .ok (.if_icmp .eq 14, 3) := by decide +kernel
theorem d_C_way_19 : decode prog_1_method_5_code 19 = .ok (.iload_n 3, 1) := by decide +kernel
theorem d_C_way_20 : decode prog_1_method_5_code 20 = .ok (.iconst 1, 1) := by decide +kernel
theorem d_C_way_21 : decode prog_1_method_5_code 21 = .ok (.if_icmp .lt 9, 3) := by decide +kernel
theorem d_C_way_24 : decode prog_1_method_5_code 24 = .ok (.iload_n 3, 1) := by decide +kernel
theorem d_C_way_25 : decode prog_1_method_5_code 25 = .ok (.bipush 30, 2) := by decide +kernel
theorem d_C_way_27 : decode prog_1_method_5_code 27 = .ok (.if_icmp .le 5, 3) := by decide +kernel
theorem d_C_way_32 : decode prog_1_method_5_code 32 = .ok (.aload_n 0, 1) := by decide +kernel
theorem d_C_way_33 : decode prog_1_method_5_code 33 = .ok (.getfield 45, 3) := by decide +kernel
theorem d_C_way_36 : decode prog_1_method_5_code 36 = .ok (.iload_n 1, 1) := by decide +kernel
theorem d_C_way_37 : decode prog_1_method_5_code 37 = .ok (.iload_n 2, 1) := by decide +kernel
theorem d_C_way_38 : decode prog_1_method_5_code 38 = .ok (.iload_n 3, 1) := by decide +kernel
theorem d_C_way_39 : decode prog_1_method_5_code 39 = .ok (.invokevirtual 106, 3) := by decide +kernel
theorem d_C_way_42 : decode prog_1_method_5_code 42 = .ok (.iconst 1, 1) := by decide +kernel
theorem d_C_way_43 : decode prog_1_method_5_code 43 = .ok (.ireturn, 1) := by decide +kernel
theorem d_C_knownTo_0 : decode prog_1_method_48_code 0 = .ok (.iload_n 1, 1) := by decide +kernel
theorem d_C_knownTo_1 : decode prog_1_method_48_code 1 = .ok (.invokestatic 102, 3) := by decide +kernel
theorem d_C_knownTo_4 : decode prog_1_method_48_code 4 = .ok (.ifCond .eq 25, 3) := by decide +kernel
theorem d_C_knownTo_29 : decode prog_1_method_48_code 29 = .ok (.iconst 0, 1) := by decide +kernel
theorem d_C_knownTo_30 : decode prog_1_method_48_code 30 = .ok (.ireturn, 1) := by decide +kernel
theorem d_C_knownTo_7 : decode prog_1_method_48_code 7 = .ok (.aload_n 0, 1) := by decide +kernel
theorem d_C_knownTo_8 : decode prog_1_method_48_code 8 = .ok (.getfield 38, 3) := by decide +kernel
theorem d_C_knownTo_11 : decode prog_1_method_48_code 11 = .ok (.getfield 342, 3) := by decide +kernel
theorem d_C_knownTo_14 : decode prog_1_method_48_code 14 = .ok (.iload_n 1, 1) := by decide +kernel
theorem d_C_knownTo_15 : decode prog_1_method_48_code 15 = .ok (.iaload, 1) := by decide +kernel
theorem d_C_knownTo_16 : decode prog_1_method_48_code 16 = .ok (.aload_n 0, 1) := by decide +kernel
theorem d_C_knownTo_17 : decode prog_1_method_48_code 17 = .ok (.getfield 52, 3) := by decide +kernel
theorem d_C_knownTo_20 : decode prog_1_method_48_code 20 = .ok (.getfield 345, 3) := by decide +kernel
theorem d_C_knownTo_23 : decode prog_1_method_48_code 23 = .ok (.iload_n 1, 1) := by decide +kernel
theorem d_C_knownTo_24 : decode prog_1_method_48_code 24 = .ok (.iaload, 1) := by decide +kernel
theorem d_C_knownTo_25 : decode prog_1_method_48_code 25 = .ok (.ior, 1) := by decide +kernel
theorem d_C_knownTo_26 : decode prog_1_method_48_code 26 = .ok (.goto 4, 3) := by decide +kernel
theorem d_L_allOf_0 : decode prog_7_method_7_code 0 = .ok (.iconst 0, 1) := by decide +kernel
theorem d_L_allOf_1 : decode prog_7_method_7_code 1 = .ok (.istore_n 3, 1) := by decide +kernel
theorem d_L_allOf_2 : decode prog_7_method_7_code 2 = .ok (.iconst 0, 1) := by decide +kernel
theorem d_L_allOf_3 : decode prog_7_method_7_code 3 = .ok (.istore 4, 2) := by decide +kernel
theorem d_L_allOf_5 : decode prog_7_method_7_code 5 = .ok (.iload 4, 2) := by decide +kernel
theorem d_L_allOf_7 : decode prog_7_method_7_code 7 = .ok (.aload_n 0, 1) := by decide +kernel
theorem d_L_allOf_8 : decode prog_7_method_7_code 8 = .ok (.getfield 57, 3) := by decide +kernel
theorem d_L_allOf_11 : decode prog_7_method_7_code 11 = .ok (.if_icmp .ge 25, 3) := by decide +kernel
theorem d_L_allOf_14 : decode prog_7_method_7_code 14 = .ok (.iload_n 1, 1) := by decide +kernel
theorem d_L_allOf_15 : decode prog_7_method_7_code 15 = .ok (.iload 4, 2) := by decide +kernel
theorem d_L_allOf_17 : decode prog_7_method_7_code 17 = .ok (.invokestatic 68, 3) := by decide +kernel
theorem d_L_allOf_20 : decode prog_7_method_7_code 20 = .ok (.ifCond .eq 10, 3) := by decide +kernel
theorem d_L_allOf_30 : decode prog_7_method_7_code 30 = .ok (.iinc 4 1, 3) := by decide +kernel
theorem d_L_allOf_33 : decode prog_7_method_7_code 33 = .ok (.goto (-28), 3) := by decide +kernel
theorem d_L_allOf_23 : decode prog_7_method_7_code 23 = .ok (.iload_n 3, 1) := by decide +kernel
theorem d_L_allOf_24 : decode prog_7_method_7_code 24 = .ok (.aload_n 2, 1) := by decide +kernel
theorem d_L_allOf_25 : decode prog_7_method_7_code 25 = .ok (.iload 4, 2) := by decide +kernel
theorem d_L_allOf_27 : decode prog_7_method_7_code 27 = .ok (.iaload, 1) := by decide +kernel
theorem d_L_allOf_28 : decode prog_7_method_7_code 28 = .ok (.ior, 1) := by decide +kernel
theorem d_L_allOf_29 : decode prog_7_method_7_code 29 = .ok (.istore_n 3, 1) := by decide +kernel
theorem d_L_allOf_36 : decode prog_7_method_7_code 36 = .ok (.iload_n 3, 1) := by decide +kernel
theorem d_L_allOf_37 : decode prog_7_method_7_code 37 = .ok (.ireturn, 1) := by decide +kernel
theorem d_L_answered_0 : decode prog_7_method_9_code 0 = .ok (.iconst 0, 1) := by decide +kernel
theorem d_L_answered_1 : decode prog_7_method_9_code 1 = .ok (.istore_n 2, 1) := by decide +kernel
theorem d_L_answered_2 : decode prog_7_method_9_code 2 = .ok (.aload_n 0, 1) := by decide +kernel
theorem d_L_answered_3 : decode prog_7_method_9_code 3 = .ok (.getfield 24, 3) := by decide +kernel
theorem d_L_answered_6 : decode prog_7_method_9_code 6 = .ok (.iload_n 1, 1) := by decide +kernel
theorem d_L_answered_7 : decode prog_7_method_9_code 7 = .ok (.iaload, 1) := by decide +kernel
theorem d_L_answered_8 : decode prog_7_method_9_code 8 = .ok (.iconst (-1), 1) := by decide +kernel
theorem d_L_answered_9 : decode prog_7_method_9_code 9 = .ok (.if_icmp .eq 15, 3) := by decide +kernel
theorem d_L_answered_24 : decode prog_7_method_9_code 24 = .ok (.aload_n 0, 1) := by decide +kernel
theorem d_L_answered_25 : decode prog_7_method_9_code 25 = .ok (.getfield 27, 3) := by decide +kernel
theorem d_L_answered_28 : decode prog_7_method_9_code 28 = .ok (.iload_n 1, 1) := by decide +kernel
theorem d_L_answered_29 : decode prog_7_method_9_code 29 = .ok (.iaload, 1) := by decide +kernel
theorem d_L_answered_30 : decode prog_7_method_9_code 30 = .ok (.iconst (-1), 1) := by decide +kernel
theorem d_L_answered_31 : decode prog_7_method_9_code 31 = .ok (.if_icmp .eq 15, 3) := by decide +kernel
theorem d_L_answered_46 : decode prog_7_method_9_code 46 = .ok (.iload_n 2, 1) := by decide +kernel
theorem d_L_answered_47 : decode prog_7_method_9_code 47 = .ok (.ireturn, 1) := by decide +kernel
theorem d_L_answered_34 : decode prog_7_method_9_code 34 = .ok (.iload_n 2, 1) := by decide +kernel
theorem d_L_answered_35 : decode prog_7_method_9_code 35 = .ok (.aload_n 0, 1) := by decide +kernel
theorem d_L_answered_36 : decode prog_7_method_9_code 36 = .ok (.getfield 27, 3) := by decide +kernel
theorem d_L_answered_39 : decode prog_7_method_9_code 39 = .ok (.iload_n 1, 1) := by decide +kernel
theorem d_L_answered_40 : decode prog_7_method_9_code 40 = .ok (.iaload, 1) := by decide +kernel
theorem d_L_answered_41 : decode prog_7_method_9_code 41 = .ok (.invokestatic 72, 3) := by decide +kernel
theorem d_L_answered_44 : decode prog_7_method_9_code 44 = .ok (.ior, 1) := by decide +kernel
theorem d_L_answered_45 : decode prog_7_method_9_code 45 = .ok (.istore_n 2, 1) := by decide +kernel
theorem d_L_answered_12 : decode prog_7_method_9_code 12 = .ok (.iload_n 2, 1) := by decide +kernel
theorem d_L_answered_13 : decode prog_7_method_9_code 13 = .ok (.aload_n 0, 1) := by decide +kernel
theorem d_L_answered_14 : decode prog_7_method_9_code 14 = .ok (.getfield 24, 3) := by decide +kernel
theorem d_L_answered_17 : decode prog_7_method_9_code 17 = .ok (.iload_n 1, 1) := by decide +kernel
theorem d_L_answered_18 : decode prog_7_method_9_code 18 = .ok (.iaload, 1) := by decide +kernel
theorem d_L_answered_19 : decode prog_7_method_9_code 19 = .ok (.invokestatic 72, 3) := by decide +kernel
theorem d_L_answered_22 : decode prog_7_method_9_code 22 = .ok (.ior, 1) := by decide +kernel
theorem d_L_answered_23 : decode prog_7_method_9_code 23 = .ok (.istore_n 2, 1) := by decide +kernel
theorem d_L_greatestSum_0 : decode prog_7_method_8_code 0 = .ok (.iconst 0, 1) := by decide +kernel
theorem d_L_greatestSum_1 : decode prog_7_method_8_code 1 = .ok (.istore_n 2, 1) := by decide +kernel
theorem d_L_greatestSum_2 : decode prog_7_method_8_code 2 = .ok (.iconst 0, 1) := by decide +kernel
theorem d_L_greatestSum_3 : decode prog_7_method_8_code 3 = .ok (.istore_n 3, 1) := by decide +kernel
theorem d_L_greatestSum_4 : decode prog_7_method_8_code 4 = .ok (.iload_n 3, 1) := by decide +kernel
theorem d_L_greatestSum_5 : decode prog_7_method_8_code 5 = .ok (.aload_n 0, 1) := by decide +kernel
theorem d_L_greatestSum_6 : decode prog_7_method_8_code 6 = .ok (.getfield 57, 3) := by decide +kernel
theorem d_L_greatestSum_9 : decode prog_7_method_8_code 9 = .ok (.if_icmp .ge 28, 3) := by decide +kernel
theorem d_L_greatestSum_12 : decode prog_7_method_8_code 12 = .ok (.iload_n 1, 1) := by decide +kernel
theorem d_L_greatestSum_13 : decode prog_7_method_8_code 13 = .ok (.iload_n 3, 1) := by decide +kernel
theorem d_L_greatestSum_14 : decode prog_7_method_8_code 14 = .ok (.invokestatic 68, 3) := by decide +kernel
theorem d_L_greatestSum_17 : decode prog_7_method_8_code 17 = .ok (.ifCond .eq 14, 3) := by decide +kernel
theorem d_L_greatestSum_31 : decode prog_7_method_8_code 31 = .ok (.iinc 3 1, 3) := by decide +kernel
theorem d_L_greatestSum_34 : decode prog_7_method_8_code 34 = .ok (.goto (-30), 3) := by decide +kernel
theorem d_L_greatestSum_20 : decode prog_7_method_8_code 20 = .ok (.iload_n 2, 1) := by decide +kernel
theorem d_L_greatestSum_21 : decode prog_7_method_8_code 21 = .ok (.aload_n 0, 1) := by decide +kernel
theorem d_L_greatestSum_22 : decode prog_7_method_8_code 22 = .ok (.getfield 45, 3) := by decide +kernel
theorem d_L_greatestSum_25 : decode prog_7_method_8_code 25 = .ok (.iload_n 3, 1) := by decide +kernel
theorem d_L_greatestSum_26 : decode prog_7_method_8_code 26 = .ok (.iaload, 1) := by decide +kernel
theorem d_L_greatestSum_27 : decode prog_7_method_8_code 27 = .ok (.invokestatic 89, 3) := by decide +kernel
theorem d_L_greatestSum_30 : decode prog_7_method_8_code 30 = .ok (.istore_n 2, 1) := by decide +kernel
theorem d_L_greatestSum_37 : decode prog_7_method_8_code 37 = .ok (.iload_n 2, 1) := by decide +kernel
theorem d_L_greatestSum_38 : decode prog_7_method_8_code 38 = .ok (.ireturn, 1) := by decide +kernel
theorem d_L_add_0 : decode prog_7_method_6_code 0 = .ok (.aload_n 0, 1) := by decide +kernel
theorem d_L_add_1 : decode prog_7_method_6_code 1 = .ok (.getfield 57, 3) := by decide +kernel
theorem d_L_add_4 : decode prog_7_method_6_code 4 = .ok (.bipush 30, 2) := by decide +kernel
theorem d_L_add_6 : decode prog_7_method_6_code 6 = .ok (.if_icmp .ge 10, 3) := by decide +kernel
theorem d_L_add_16 : decode prog_7_method_6_code 16 = .ok (.iconst (-1), 1) := by decide +kernel
theorem d_L_add_17 : decode prog_7_method_6_code 17 = .ok (.ireturn, 1) := by decide +kernel
theorem d_L_add_9 : decode prog_7_method_6_code 9 = .ok (.iload_n 1, 1) := by decide +kernel
theorem d_L_add_10 : decode prog_7_method_6_code 10 = .ok (.invokestatic 76, 3) := by decide +kernel
theorem d_L_add_13 : decode prog_7_method_6_code 13 = .ok (.ifCond .ne 5, 3) := by decide +kernel
theorem d_L_add_18 : decode prog_7_method_6_code 18 = .ok (.aload_n 0, 1) := by decide +kernel
theorem d_L_add_19 : decode prog_7_method_6_code 19 = .ok (.getfield 57, 3) := by decide +kernel
theorem d_L_add_22 : decode prog_7_method_6_code 22 = .ok (.istore 8, 2) := by decide +kernel
theorem d_L_add_24 : decode prog_7_method_6_code 24 = .ok (.aload_n 0, 1) := by decide +kernel
theorem d_L_add_25 : decode prog_7_method_6_code 25 = .ok (.getfield 9, 3) := by decide +kernel
theorem d_L_add_28 : decode prog_7_method_6_code 28 = .ok (.iload 8, 2) := by decide +kernel
theorem d_L_add_30 : decode prog_7_method_6_code 30 = .ok (.iload_n 1, 1) := by decide +kernel
theorem d_L_add_31 : decode prog_7_method_6_code 31 = .ok (.iastore, 1) := by decide +kernel
theorem d_L_add_32 : decode prog_7_method_6_code 32 = .ok (.aload_n 0, 1) := by decide +kernel
theorem d_L_add_33 : decode prog_7_method_6_code 33 = .ok (.getfield 15, 3) := by decide +kernel
theorem d_L_add_36 : decode prog_7_method_6_code 36 = .ok (.iload 8, 2) := by decide +kernel
theorem d_L_add_38 : decode prog_7_method_6_code 38 = .ok (.iload_n 2, 1) := by decide +kernel
theorem d_L_add_39 : decode prog_7_method_6_code 39 = .ok (.iastore, 1) := by decide +kernel
theorem d_L_add_40 : decode prog_7_method_6_code 40 = .ok (.aload_n 0, 1) := by decide +kernel
theorem d_L_add_41 : decode prog_7_method_6_code 41 = .ok (.getfield 18, 3) := by decide +kernel
theorem d_L_add_44 : decode prog_7_method_6_code 44 = .ok (.iload 8, 2) := by decide +kernel
theorem d_L_add_46 : decode prog_7_method_6_code 46 = .ok (.iload_n 3, 1) := by decide +kernel
theorem d_L_add_47 : decode prog_7_method_6_code 47 = .ok (.iastore, 1) := by decide +kernel
theorem d_L_add_48 : decode prog_7_method_6_code 48 = .ok (.aload_n 0, 1) := by decide +kernel
theorem d_L_add_49 : decode prog_7_method_6_code 49 = .ok (.getfield 21, 3) := by decide +kernel
theorem d_L_add_52 : decode prog_7_method_6_code 52 = .ok (.iload 8, 2) := by decide +kernel
theorem d_L_add_54 : decode prog_7_method_6_code 54 = .ok (.iload 4, 2) := by decide +kernel
theorem d_L_add_56 : decode prog_7_method_6_code 56 = .ok (.iastore, 1) := by decide +kernel
theorem d_L_add_57 : decode prog_7_method_6_code 57 = .ok (.aload_n 0, 1) := by decide +kernel
theorem d_L_add_58 : decode prog_7_method_6_code 58 = .ok (.getfield 24, 3) := by decide +kernel
theorem d_L_add_61 : decode prog_7_method_6_code 61 = .ok (.iload 8, 2) := by decide +kernel
theorem d_L_add_63 : decode prog_7_method_6_code 63 = .ok (.iload 5, 2) := by decide +kernel
theorem d_L_add_65 : decode prog_7_method_6_code 65 = .ok (.iastore, 1) := by decide +kernel
theorem d_L_add_66 : decode prog_7_method_6_code 66 = .ok (.aload_n 0, 1) := by decide +kernel
theorem d_L_add_67 : decode prog_7_method_6_code 67 = .ok (.getfield 27, 3) := by decide +kernel
theorem d_L_add_70 : decode prog_7_method_6_code 70 = .ok (.iload 8, 2) := by decide +kernel
theorem d_L_add_72 : decode prog_7_method_6_code 72 = .ok (.iload 6, 2) := by decide +kernel
theorem d_L_add_74 : decode prog_7_method_6_code 74 = .ok (.iastore, 1) := by decide +kernel
theorem d_L_add_75 : decode prog_7_method_6_code 75 = .ok (.aload_n 0, 1) := by decide +kernel
theorem d_L_add_76 : decode prog_7_method_6_code 76 = .ok (.getfield 30, 3) := by decide +kernel
theorem d_L_add_79 : decode prog_7_method_6_code 79 = .ok (.iload 8, 2) := by decide +kernel
theorem d_L_add_81 : decode prog_7_method_6_code 81 = .ok (.iload 7, 2) := by decide +kernel
theorem d_L_add_83 : decode prog_7_method_6_code 83 = .ok (.iastore, 1) := by decide +kernel
theorem d_L_add_84 : decode prog_7_method_6_code 84 = .ok (.aload_n 0, 1) := by decide +kernel
theorem d_L_add_85 : decode prog_7_method_6_code 85 = .ok (.getfield 33, 3) := by decide +kernel
theorem d_L_add_88 : decode prog_7_method_6_code 88 = .ok (.iload 8, 2) := by decide +kernel
theorem d_L_add_90 : decode prog_7_method_6_code 90 = .ok (.iload 7, 2) := by decide +kernel
theorem d_L_add_92 : decode prog_7_method_6_code 92 = .ok (.aload_n 0, 1) := by decide +kernel
theorem d_L_add_93 : decode prog_7_method_6_code 93 = .ok (.iload 7, 2) := by decide +kernel
theorem d_L_add_95 : decode prog_7_method_6_code 95 = .ok (.aload_n 0, 1) := by decide +kernel
theorem d_L_add_96 : decode prog_7_method_6_code 96 = .ok (.getfield 33, 3) := by decide +kernel
theorem d_L_add_99 : decode prog_7_method_6_code 99 = .ok (.invokevirtual 79, 3) := by decide +kernel
theorem d_L_add_102 : decode prog_7_method_6_code 102 = .ok (.ior, 1) := by decide +kernel
theorem d_L_add_103 : decode prog_7_method_6_code 103 = .ok (.iastore, 1) := by decide +kernel
theorem d_L_add_104 : decode prog_7_method_6_code 104 = .ok (.aload_n 0, 1) := by decide +kernel
theorem d_L_add_105 : decode prog_7_method_6_code 105 = .ok (.getfield 36, 3) := by decide +kernel
theorem d_L_add_108 : decode prog_7_method_6_code 108 = .ok (.iload 8, 2) := by decide +kernel
theorem d_L_add_110 : decode prog_7_method_6_code 110 = .ok (.aload_n 0, 1) := by decide +kernel
theorem d_L_add_111 : decode prog_7_method_6_code 111 = .ok (.iload 8, 2) := by decide +kernel
theorem d_L_add_113 : decode prog_7_method_6_code 113 = .ok (.invokevirtual 83, 3) := by decide +kernel
theorem d_L_add_116 : decode prog_7_method_6_code 116 = .ok (.aload_n 0, 1) := by decide +kernel
theorem d_L_add_117 : decode prog_7_method_6_code 117 = .ok (.aload_n 0, 1) := by decide +kernel
theorem d_L_add_118 : decode prog_7_method_6_code 118 = .ok (.iload 8, 2) := by decide +kernel
theorem d_L_add_120 : decode prog_7_method_6_code 120 = .ok (.invokevirtual 83, 3) := by decide +kernel
theorem d_L_add_123 : decode prog_7_method_6_code 123 = .ok (.aload_n 0, 1) := by decide +kernel
theorem d_L_add_124 : decode prog_7_method_6_code 124 = .ok (.getfield 36, 3) := by decide +kernel
theorem d_L_add_127 : decode prog_7_method_6_code 127 = .ok (.invokevirtual 79, 3) := by decide +kernel
theorem d_L_add_130 : decode prog_7_method_6_code 130 = .ok (.ior, 1) := by decide +kernel
theorem d_L_add_131 : decode prog_7_method_6_code 131 = .ok (.iastore, 1) := by decide +kernel
theorem d_L_add_132 : decode prog_7_method_6_code 132 = .ok (.aload_n 0, 1) := by decide +kernel
theorem d_L_add_133 : decode prog_7_method_6_code 133 = .ok (.getfield 39, 3) := by decide +kernel
theorem d_L_add_136 : decode prog_7_method_6_code 136 = .ok (.iload 8, 2) := by decide +kernel
theorem d_L_add_138 : decode prog_7_method_6_code 138 = .ok (.aload_n 0, 1) := by decide +kernel
theorem d_L_add_139 : decode prog_7_method_6_code 139 = .ok (.getfield 33, 3) := by decide +kernel
theorem d_L_add_142 : decode prog_7_method_6_code 142 = .ok (.iload 8, 2) := by decide +kernel
theorem d_L_add_144 : decode prog_7_method_6_code 144 = .ok (.iaload, 1) := by decide +kernel
theorem d_L_add_145 : decode prog_7_method_6_code 145 = .ok (.aload_n 0, 1) := by decide +kernel
theorem d_L_add_146 : decode prog_7_method_6_code 146 = .ok (.aload_n 0, 1) := by decide +kernel
theorem d_L_add_147 : decode prog_7_method_6_code 147 = .ok (.getfield 33, 3) := by decide +kernel
theorem d_L_add_150 : decode prog_7_method_6_code 150 = .ok (.iload 8, 2) := by decide +kernel
theorem d_L_add_152 : decode prog_7_method_6_code 152 = .ok (.iaload, 1) := by decide +kernel
theorem d_L_add_153 : decode prog_7_method_6_code 153 = .ok (.aload_n 0, 1) := by decide +kernel
theorem d_L_add_154 : decode prog_7_method_6_code 154 = .ok (.getfield 33, 3) := by decide +kernel
theorem d_L_add_157 : decode prog_7_method_6_code 157 = .ok (.invokevirtual 79, 3) := by decide +kernel
theorem d_L_add_160 : decode prog_7_method_6_code 160 = .ok (.iconst (-1), 1) := by decide +kernel
theorem d_L_add_161 : decode prog_7_method_6_code 161 = .ok (.ixor, 1) := by decide +kernel
theorem d_L_add_162 : decode prog_7_method_6_code 162 = .ok (.iand, 1) := by decide +kernel
theorem d_L_add_163 : decode prog_7_method_6_code 163 = .ok (.iastore, 1) := by decide +kernel
theorem d_L_add_164 : decode prog_7_method_6_code 164 = .ok (.aload_n 0, 1) := by decide +kernel
theorem d_L_add_165 : decode prog_7_method_6_code 165 = .ok (.getfield 42, 3) := by decide +kernel
theorem d_L_add_168 : decode prog_7_method_6_code 168 = .ok (.iload 8, 2) := by decide +kernel
theorem d_L_add_170 : decode prog_7_method_6_code 170 = .ok (.aload_n 0, 1) := by decide +kernel
theorem d_L_add_171 : decode prog_7_method_6_code 171 = .ok (.getfield 39, 3) := by decide +kernel
theorem d_L_add_174 : decode prog_7_method_6_code 174 = .ok (.iload 8, 2) := by decide +kernel
theorem d_L_add_176 : decode prog_7_method_6_code 176 = .ok (.iaload, 1) := by decide +kernel
theorem d_L_add_177 : decode prog_7_method_6_code 177 = .ok (.aload_n 0, 1) := by decide +kernel
theorem d_L_add_178 : decode prog_7_method_6_code 178 = .ok (.aload_n 0, 1) := by decide +kernel
theorem d_L_add_179 : decode prog_7_method_6_code 179 = .ok (.getfield 39, 3) := by decide +kernel
theorem d_L_add_182 : decode prog_7_method_6_code 182 = .ok (.iload 8, 2) := by decide +kernel
theorem d_L_add_184 : decode prog_7_method_6_code 184 = .ok (.iaload, 1) := by decide +kernel
theorem d_L_add_185 : decode prog_7_method_6_code 185 = .ok (.aload_n 0, 1) := by decide +kernel
theorem d_L_add_186 : decode prog_7_method_6_code 186 = .ok (.getfield 42, 3) := by decide +kernel
theorem d_L_add_189 : decode prog_7_method_6_code 189 = .ok (.invokevirtual 79, 3) := by decide +kernel
theorem d_L_add_192 : decode prog_7_method_6_code 192 = .ok (.ior, 1) := by decide +kernel
theorem d_L_add_193 : decode prog_7_method_6_code 193 = .ok (.iastore, 1) := by decide +kernel
theorem d_L_add_194 : decode prog_7_method_6_code 194 = .ok (.aload_n 0, 1) := by decide +kernel
theorem d_L_add_195 : decode prog_7_method_6_code 195 = .ok (.getfield 45, 3) := by decide +kernel
theorem d_L_add_198 : decode prog_7_method_6_code 198 = .ok (.iload 8, 2) := by decide +kernel
theorem d_L_add_200 : decode prog_7_method_6_code 200 = .ok (.iconst 1, 1) := by decide +kernel
theorem d_L_add_201 : decode prog_7_method_6_code 201 = .ok (.aload_n 0, 1) := by decide +kernel
theorem d_L_add_202 : decode prog_7_method_6_code 202 = .ok (.aload_n 0, 1) := by decide +kernel
theorem d_L_add_203 : decode prog_7_method_6_code 203 = .ok (.getfield 33, 3) := by decide +kernel
theorem d_L_add_206 : decode prog_7_method_6_code 206 = .ok (.iload 8, 2) := by decide +kernel
theorem d_L_add_208 : decode prog_7_method_6_code 208 = .ok (.iaload, 1) := by decide +kernel
theorem d_L_add_209 : decode prog_7_method_6_code 209 = .ok (.invokevirtual 86, 3) := by decide +kernel
theorem d_L_add_212 : decode prog_7_method_6_code 212 = .ok (.iadd, 1) := by decide +kernel
theorem d_L_add_213 : decode prog_7_method_6_code 213 = .ok (.iastore, 1) := by decide +kernel
theorem d_L_add_214 : decode prog_7_method_6_code 214 = .ok (.aload_n 0, 1) := by decide +kernel
theorem d_L_add_215 : decode prog_7_method_6_code 215 = .ok (.getfield 48, 3) := by decide +kernel
theorem d_L_add_218 : decode prog_7_method_6_code 218 = .ok (.iload_n 1, 1) := by decide +kernel
theorem d_L_add_219 : decode prog_7_method_6_code 219 = .ok (.dup2, 1) := by decide +kernel
theorem d_L_add_220 : decode prog_7_method_6_code 220 = .ok (.iaload, 1) := by decide +kernel
theorem d_L_add_221 : decode prog_7_method_6_code 221 = .ok (.iload 8, 2) := by decide +kernel
theorem d_L_add_223 : decode prog_7_method_6_code 223 = .ok (.invokestatic 72, 3) := by decide +kernel
theorem d_L_add_226 : decode prog_7_method_6_code 226 = .ok (.ior, 1) := by decide +kernel
theorem d_L_add_227 : decode prog_7_method_6_code 227 = .ok (.iastore, 1) := by decide +kernel
theorem d_L_add_228 : decode prog_7_method_6_code 228 = .ok (.iconst 0, 1) := by decide +kernel
theorem d_L_add_229 : decode prog_7_method_6_code 229 = .ok (.istore 9, 2) := by decide +kernel
theorem d_L_add_231 : decode prog_7_method_6_code 231 = .ok (.iload 9, 2) := by decide +kernel
theorem d_L_add_233 : decode prog_7_method_6_code 233 = .ok (.bipush 6, 2) := by decide +kernel
theorem d_L_add_235 : decode prog_7_method_6_code 235 = .ok (.if_icmp .ge 34, 3) := by decide +kernel
theorem d_L_add_238 : decode prog_7_method_6_code 238 = .ok (.iload 4, 2) := by decide +kernel
theorem d_L_add_240 : decode prog_7_method_6_code 240 = .ok (.iload 9, 2) := by decide +kernel
theorem d_L_add_242 : decode prog_7_method_6_code 242 = .ok (.invokestatic 68, 3) := by decide +kernel
theorem d_L_add_245 : decode prog_7_method_6_code 245 = .ok (.ifCond .eq 18, 3) := by decide +kernel
theorem d_L_add_263 : decode prog_7_method_6_code 263 = .ok (.iinc 9 1, 3) := by decide +kernel
theorem d_L_add_266 : decode prog_7_method_6_code 266 = .ok (.goto (-35), 3) := by decide +kernel
theorem d_L_add_248 : decode prog_7_method_6_code 248 = .ok (.aload_n 0, 1) := by decide +kernel
theorem d_L_add_249 : decode prog_7_method_6_code 249 = .ok (.getfield 51, 3) := by decide +kernel
theorem d_L_add_252 : decode prog_7_method_6_code 252 = .ok (.iload 9, 2) := by decide +kernel
theorem d_L_add_254 : decode prog_7_method_6_code 254 = .ok (.dup2, 1) := by decide +kernel
theorem d_L_add_255 : decode prog_7_method_6_code 255 = .ok (.iaload, 1) := by decide +kernel
theorem d_L_add_256 : decode prog_7_method_6_code 256 = .ok (.iload 8, 2) := by decide +kernel
theorem d_L_add_258 : decode prog_7_method_6_code 258 = .ok (.invokestatic 72, 3) := by decide +kernel
theorem d_L_add_261 : decode prog_7_method_6_code 261 = .ok (.ior, 1) := by decide +kernel
theorem d_L_add_262 : decode prog_7_method_6_code 262 = .ok (.iastore, 1) := by decide +kernel
theorem d_L_add_269 : decode prog_7_method_6_code 269 = .ok (.aload_n 0, 1) := by decide +kernel
theorem d_L_add_270 : decode prog_7_method_6_code 270 = .ok (.dup, 1) := by decide +kernel
theorem d_L_add_271 : decode prog_7_method_6_code 271 = .ok (.getfield 65, 3) := by decide +kernel
theorem d_L_add_274 : decode prog_7_method_6_code 274 = .ok (.iload 8, 2) := by decide +kernel
theorem d_L_add_276 : decode prog_7_method_6_code 276 = .ok (.invokestatic 72, 3) := by decide +kernel
theorem d_L_add_279 : decode prog_7_method_6_code 279 = .ok (.ior, 1) := by decide +kernel
theorem d_L_add_280 : decode prog_7_method_6_code 280 = .ok (.putfield 65, 3) := by decide +kernel
theorem d_L_add_283 : decode prog_7_method_6_code 283 = .ok (.aload_n 0, 1) := by decide +kernel
theorem d_L_add_284 : decode prog_7_method_6_code 284 = .ok (.dup, 1) := by decide +kernel
theorem d_L_add_285 : decode prog_7_method_6_code 285 = .ok (.getfield 57, 3) := by decide +kernel
theorem d_L_add_288 : decode prog_7_method_6_code 288 = .ok (.iconst 1, 1) := by decide +kernel
theorem d_L_add_289 : decode prog_7_method_6_code 289 = .ok (.iadd, 1) := by decide +kernel
theorem d_L_add_290 : decode prog_7_method_6_code 290 = .ok (.putfield 57, 3) := by decide +kernel
theorem d_L_add_293 : decode prog_7_method_6_code 293 = .ok (.iload 8, 2) := by decide +kernel
theorem d_L_add_295 : decode prog_7_method_6_code 295 = .ok (.ireturn, 1) := by decide +kernel
theorem d_P_throughSplit_0 : decode prog_9_method_9_code 0 = .ok (.aload_n 0, 1) := by decide +kernel
theorem d_P_throughSplit_1 : decode prog_9_method_9_code 1 = .ok (.getfield 59, 3) := by decide +kernel
theorem d_P_throughSplit_4 : decode prog_9_method_9_code 4 = .ok (.iload_n 1, 1) := by decide +kernel
theorem d_P_throughSplit_5 : decode prog_9_method_9_code 5 = .ok (.invokestatic 75, 3) := by decide +kernel
theorem d_P_throughSplit_8 : decode prog_9_method_9_code 8 = .ok (.aload_n 0, 1) := by decide +kernel
theorem d_P_throughSplit_9 : decode prog_9_method_9_code 9 = .ok (.getfield 59, 3) := by decide +kernel
theorem d_P_throughSplit_12 : decode prog_9_method_9_code 12 = .ok (.iload_n 2, 1) := by decide +kernel
theorem d_P_throughSplit_13 : decode prog_9_method_9_code 13 = .ok (.invokestatic 75, 3) := by decide +kernel
theorem d_P_throughSplit_16 : decode prog_9_method_9_code 16 = .ok (.if_icmp .eq 7, 3) := by decide +kernel
theorem d_P_throughSplit_23 : decode prog_9_method_9_code 23 = .ok (.iconst 0, 1) := by decide +kernel
theorem d_P_throughSplit_24 : decode prog_9_method_9_code 24 = .ok (.istore 4, 2) := by decide +kernel
theorem d_P_throughSplit_26 : decode prog_9_method_9_code 26 = .ok (.iload 4, 2) := by decide +kernel
theorem d_P_throughSplit_28 : decode prog_9_method_9_code 28 = .ok (.ifCond .eq 28, 3) := by decide +kernel
theorem d_P_throughSplit_56 : decode prog_9_method_9_code 56 = .ok (.iload_n 3, 1) := by decide +kernel
theorem d_P_throughSplit_57 : decode prog_9_method_9_code 57 = .ok (.ireturn, 1) := by decide +kernel
theorem d_P_throughSplit_31 : decode prog_9_method_9_code 31 = .ok (.iload_n 3, 1) := by decide +kernel
theorem d_P_throughSplit_32 : decode prog_9_method_9_code 32 = .ok (.aload_n 0, 1) := by decide +kernel
theorem d_P_throughSplit_33 : decode prog_9_method_9_code 33 = .ok (.getfield 62, 3) := by decide +kernel
theorem d_P_throughSplit_36 : decode prog_9_method_9_code 36 = .ok (.if_icmp .lt 20, 3) := by decide +kernel
theorem d_P_throughSplit_39 : decode prog_9_method_9_code 39 = .ok (.iload_n 3, 1) := by decide +kernel
theorem d_P_throughSplit_40 : decode prog_9_method_9_code 40 = .ok (.aload_n 0, 1) := by decide +kernel
theorem d_P_throughSplit_41 : decode prog_9_method_9_code 41 = .ok (.getfield 65, 3) := by decide +kernel
theorem d_P_throughSplit_44 : decode prog_9_method_9_code 44 = .ok (.if_icmp .gt 12, 3) := by decide +kernel
theorem d_P_throughSplit_47 : decode prog_9_method_9_code 47 = .ok (.aload_n 0, 1) := by decide +kernel
theorem d_P_throughSplit_48 : decode prog_9_method_9_code 48 = .ok (.getfield 65, 3) := by decide +kernel
theorem d_P_throughSplit_51 : decode prog_9_method_9_code 51 = .ok (.iconst 1, 1) := by decide +kernel
theorem d_P_throughSplit_52 : decode prog_9_method_9_code 52 = .ok (.iadd, 1) := by decide +kernel
theorem d_P_throughSplit_53 : decode prog_9_method_9_code 53 = .ok (.goto 4, 3) := by decide +kernel
theorem d_P_throughSplit_19 : decode prog_9_method_9_code 19 = .ok (.iconst 1, 1) := by decide +kernel
theorem d_P_throughSplit_20 : decode prog_9_method_9_code 20 = .ok (.goto 4, 3) := by decide +kernel
theorem d_P_send_0 : decode prog_9_method_7_code 0 = .ok (.aload_n 0, 1) := by decide +kernel
theorem d_P_send_1 : decode prog_9_method_7_code 1 = .ok (.getfield 35, 3) := by decide +kernel
theorem d_P_send_4 : decode prog_9_method_7_code 4 = .ok (.sipush 150, 3) := by decide +kernel
theorem d_P_send_7 : decode prog_9_method_7_code 7 = .ok (.if_icmp .ge 17, 3) := by decide +kernel
theorem d_P_send_24 : decode prog_9_method_7_code 24 = .ok (.iconst (-1), 1) := by decide +kernel
theorem d_P_send_25 : decode prog_9_method_7_code 25 = .ok (.ireturn, 1) := by decide +kernel
theorem d_P_send_10 : decode prog_9_method_7_code 10 = .ok (.iload_n 2, 1) := by decide +kernel
theorem d_P_send_11 : decode prog_9_method_7_code 11 = .ok (.invokestatic 68, 3) := by decide +kernel
theorem d_P_send_14 : decode prog_9_method_7_code 14 = .ok (.ifCond .eq 10, 3) := by decide +kernel
theorem d_P_send_17 : decode prog_9_method_7_code 17 = .ok (.iload_n 3, 1) := by decide +kernel
theorem d_P_send_18 : decode prog_9_method_7_code 18 = .ok (.invokestatic 68, 3) := by decide +kernel
theorem d_P_send_21 : decode prog_9_method_7_code 21 = .ok (.ifCond .ne 5, 3) := by decide +kernel
theorem d_P_send_26 : decode prog_9_method_7_code 26 = .ok (.aload_n 0, 1) := by decide +kernel
theorem d_P_send_27 : decode prog_9_method_7_code 27 = .ok (.getfield 35, 3) := by decide +kernel
theorem d_P_send_30 : decode prog_9_method_7_code 30 = .ok (.istore 5, 2) := by decide +kernel
theorem d_P_send_32 : decode prog_9_method_7_code 32 = .ok (.aload_n 0, 1) := by decide +kernel
theorem d_P_send_33 : decode prog_9_method_7_code 33 = .ok (.getfield 19, 3) := by decide +kernel
theorem d_P_send_36 : decode prog_9_method_7_code 36 = .ok (.iload 5, 2) := by decide +kernel
theorem d_P_send_38 : decode prog_9_method_7_code 38 = .ok (.iload_n 1, 1) := by decide +kernel
theorem d_P_send_39 : decode prog_9_method_7_code 39 = .ok (.iastore, 1) := by decide +kernel
theorem d_P_send_40 : decode prog_9_method_7_code 40 = .ok (.aload_n 0, 1) := by decide +kernel
theorem d_P_send_41 : decode prog_9_method_7_code 41 = .ok (.getfield 23, 3) := by decide +kernel
theorem d_P_send_44 : decode prog_9_method_7_code 44 = .ok (.iload 5, 2) := by decide +kernel
theorem d_P_send_46 : decode prog_9_method_7_code 46 = .ok (.iload_n 2, 1) := by decide +kernel
theorem d_P_send_47 : decode prog_9_method_7_code 47 = .ok (.iastore, 1) := by decide +kernel
theorem d_P_send_48 : decode prog_9_method_7_code 48 = .ok (.aload_n 0, 1) := by decide +kernel
theorem d_P_send_49 : decode prog_9_method_7_code 49 = .ok (.getfield 26, 3) := by decide +kernel
theorem d_P_send_52 : decode prog_9_method_7_code 52 = .ok (.iload 5, 2) := by decide +kernel
theorem d_P_send_54 : decode prog_9_method_7_code 54 = .ok (.iload_n 3, 1) := by decide +kernel
theorem d_P_send_55 : decode prog_9_method_7_code 55 = .ok (.iastore, 1) := by decide +kernel
theorem d_P_send_56 : decode prog_9_method_7_code 56 = .ok (.aload_n 0, 1) := by decide +kernel
theorem d_P_send_57 : decode prog_9_method_7_code 57 = .ok (.getfield 29, 3) := by decide +kernel
theorem d_P_send_60 : decode prog_9_method_7_code 60 = .ok (.iload 5, 2) := by decide +kernel
theorem d_P_send_62 : decode prog_9_method_7_code 62 = .ok (.aload_n 0, 1) := by decide +kernel
theorem d_P_send_63 : decode prog_9_method_7_code 63 = .ok (.iload_n 2, 1) := by decide +kernel
theorem d_P_send_64 : decode prog_9_method_7_code 64 = .ok (.iload_n 3, 1) := by decide +kernel
theorem d_P_send_65 : decode prog_9_method_7_code 65 = .ok (.iload 4, 2) := by decide +kernel
theorem d_P_send_67 : decode prog_9_method_7_code 67 = .ok (.aload_n 0, 1) := by decide +kernel
theorem d_P_send_68 : decode prog_9_method_7_code 68 = .ok (.getfield 11, 3) := by decide +kernel
theorem d_P_send_71 : decode prog_9_method_7_code 71 = .ok (.iload_n 2, 1) := by decide +kernel
theorem d_P_send_72 : decode prog_9_method_7_code 72 = .ok (.aaload, 1) := by decide +kernel
theorem d_P_send_73 : decode prog_9_method_7_code 73 = .ok (.iload_n 3, 1) := by decide +kernel
theorem d_P_send_74 : decode prog_9_method_7_code 74 = .ok (.iaload, 1) := by decide +kernel
theorem d_P_send_75 : decode prog_9_method_7_code 75 = .ok (.iadd, 1) := by decide +kernel
theorem d_P_send_76 : decode prog_9_method_7_code 76 = .ok (.invokevirtual 71, 3) := by decide +kernel
theorem d_P_send_79 : decode prog_9_method_7_code 79 = .ok (.iastore, 1) := by decide +kernel
theorem d_P_send_80 : decode prog_9_method_7_code 80 = .ok (.aload_n 0, 1) := by decide +kernel
theorem d_P_send_81 : decode prog_9_method_7_code 81 = .ok (.getfield 32, 3) := by decide +kernel
theorem d_P_send_84 : decode prog_9_method_7_code 84 = .ok (.iload 5, 2) := by decide +kernel
theorem d_P_send_86 : decode prog_9_method_7_code 86 = .ok (.iconst 0, 1) := by decide +kernel
theorem d_P_send_87 : decode prog_9_method_7_code 87 = .ok (.iastore, 1) := by decide +kernel
theorem d_P_send_88 : decode prog_9_method_7_code 88 = .ok (.aload_n 0, 1) := by decide +kernel
theorem d_P_send_89 : decode prog_9_method_7_code 89 = .ok (.dup, 1) := by decide +kernel
theorem d_P_send_90 : decode prog_9_method_7_code 90 = .ok (.getfield 35, 3) := by decide +kernel
theorem d_P_send_93 : decode prog_9_method_7_code 93 = .ok (.iconst 1, 1) := by decide +kernel
theorem d_P_send_94 : decode prog_9_method_7_code 94 = .ok (.iadd, 1) := by decide +kernel
theorem d_P_send_95 : decode prog_9_method_7_code 95 = .ok (.putfield 35, 3) := by decide +kernel
theorem d_P_send_98 : decode prog_9_method_7_code 98 = .ok (.iload 5, 2) := by decide +kernel
theorem d_P_send_100 : decode prog_9_method_7_code 100 = .ok (.ireturn, 1) := by decide +kernel
theorem d_JI_bitCount_0 : decode prog_21_method_49_code 0 = .ok (.iload_n 0, 1) := by decide +kernel
theorem d_JI_bitCount_1 : decode prog_21_method_49_code 1 = .ok (.iload_n 0, 1) := by decide +kernel
theorem d_JI_bitCount_2 : decode prog_21_method_49_code 2 = .ok (.iconst 1, 1) := by decide +kernel
theorem d_JI_bitCount_3 : decode prog_21_method_49_code 3 = .ok (.iushr, 1) := by decide +kernel
theorem d_JI_bitCount_4 : decode prog_21_method_49_code 4 = .ok (.ldc_w 265, 3) := by decide +kernel
theorem d_JI_bitCount_7 : decode prog_21_method_49_code 7 = .ok (.iand, 1) := by decide +kernel
theorem d_JI_bitCount_8 : decode prog_21_method_49_code 8 = .ok (.isub, 1) := by decide +kernel
theorem d_JI_bitCount_9 : decode prog_21_method_49_code 9 = .ok (.istore_n 0, 1) := by decide +kernel
theorem d_JI_bitCount_10 : decode prog_21_method_49_code 10 = .ok (.iload_n 0, 1) := by decide +kernel
theorem d_JI_bitCount_11 : decode prog_21_method_49_code 11 = .ok (.ldc_w 266, 3) := by decide +kernel
theorem d_JI_bitCount_14 : decode prog_21_method_49_code 14 = .ok (.iand, 1) := by decide +kernel
theorem d_JI_bitCount_15 : decode prog_21_method_49_code 15 = .ok (.iload_n 0, 1) := by decide +kernel
theorem d_JI_bitCount_16 : decode prog_21_method_49_code 16 = .ok (.iconst 2, 1) := by decide +kernel
theorem d_JI_bitCount_17 : decode prog_21_method_49_code 17 = .ok (.iushr, 1) := by decide +kernel
theorem d_JI_bitCount_18 : decode prog_21_method_49_code 18 = .ok (.ldc_w 266, 3) := by decide +kernel
theorem d_JI_bitCount_21 : decode prog_21_method_49_code 21 = .ok (.iand, 1) := by decide +kernel
theorem d_JI_bitCount_22 : decode prog_21_method_49_code 22 = .ok (.iadd, 1) := by decide +kernel
theorem d_JI_bitCount_23 : decode prog_21_method_49_code 23 = .ok (.istore_n 0, 1) := by decide +kernel
theorem d_JI_bitCount_24 : decode prog_21_method_49_code 24 = .ok (.iload_n 0, 1) := by decide +kernel
theorem d_JI_bitCount_25 : decode prog_21_method_49_code 25 = .ok (.iload_n 0, 1) := by decide +kernel
theorem d_JI_bitCount_26 : decode prog_21_method_49_code 26 = .ok (.iconst 4, 1) := by decide +kernel
theorem d_JI_bitCount_27 : decode prog_21_method_49_code 27 = .ok (.iushr, 1) := by decide +kernel
theorem d_JI_bitCount_28 : decode prog_21_method_49_code 28 = .ok (.iadd, 1) := by decide +kernel
theorem d_JI_bitCount_29 : decode prog_21_method_49_code 29 = .ok (.ldc_w 267, 3) := by decide +kernel
theorem d_JI_bitCount_32 : decode prog_21_method_49_code 32 = .ok (.iand, 1) := by decide +kernel
theorem d_JI_bitCount_33 : decode prog_21_method_49_code 33 = .ok (.istore_n 0, 1) := by decide +kernel
theorem d_JI_bitCount_34 : decode prog_21_method_49_code 34 = .ok (.iload_n 0, 1) := by decide +kernel
theorem d_JI_bitCount_35 : decode prog_21_method_49_code 35 = .ok (.iload_n 0, 1) := by decide +kernel
theorem d_JI_bitCount_36 : decode prog_21_method_49_code 36 = .ok (.bipush 8, 2) := by decide +kernel
theorem d_JI_bitCount_38 : decode prog_21_method_49_code 38 = .ok (.iushr, 1) := by decide +kernel
theorem d_JI_bitCount_39 : decode prog_21_method_49_code 39 = .ok (.iadd, 1) := by decide +kernel
theorem d_JI_bitCount_40 : decode prog_21_method_49_code 40 = .ok (.istore_n 0, 1) := by decide +kernel
theorem d_JI_bitCount_41 : decode prog_21_method_49_code 41 = .ok (.iload_n 0, 1) := by decide +kernel
theorem d_JI_bitCount_42 : decode prog_21_method_49_code 42 = .ok (.iload_n 0, 1) := by decide +kernel
theorem d_JI_bitCount_43 : decode prog_21_method_49_code 43 = .ok (.bipush 16, 2) := by decide +kernel
theorem d_JI_bitCount_45 : decode prog_21_method_49_code 45 = .ok (.iushr, 1) := by decide +kernel
theorem d_JI_bitCount_46 : decode prog_21_method_49_code 46 = .ok (.iadd, 1) := by decide +kernel
theorem d_JI_bitCount_47 : decode prog_21_method_49_code 47 = .ok (.istore_n 0, 1) := by decide +kernel
theorem d_JI_bitCount_48 : decode prog_21_method_49_code 48 = .ok (.iload_n 0, 1) := by decide +kernel
theorem d_JI_bitCount_49 : decode prog_21_method_49_code 49 = .ok (.bipush 63, 2) := by decide +kernel
theorem d_JI_bitCount_51 : decode prog_21_method_49_code 51 = .ok (.iand, 1) := by decide +kernel
theorem d_JI_bitCount_52 : decode prog_21_method_49_code 52 = .ok (.ireturn, 1) := by decide +kernel
theorem d_C_enter_0 : decode prog_1_method_50_code 0 = .ok (.aload_n 0, 1) := by decide +kernel
theorem d_C_enter_1 : decode prog_1_method_50_code 1 = .ok (.getfield 38, 3) := by decide +kernel
theorem d_C_enter_4 : decode prog_1_method_50_code 4 = .ok (.getfield 259, 3) := by decide +kernel
theorem d_C_enter_7 : decode prog_1_method_50_code 7 = .ok (.bipush 30, 2) := by decide +kernel
theorem d_C_enter_9 : decode prog_1_method_50_code 9 = .ok (.if_icmp .ge 21, 3) := by decide +kernel
theorem d_C_enter_30 : decode prog_1_method_50_code 30 = .ok (.iconst (-1), 1) := by decide +kernel
theorem d_C_enter_31 : decode prog_1_method_50_code 31 = .ok (.ireturn, 1) := by decide +kernel
theorem d_C_enter_12 : decode prog_1_method_50_code 12 = .ok (.aload_n 0, 1) := by decide +kernel
theorem d_C_enter_13 : decode prog_1_method_50_code 13 = .ok (.getfield 45, 3) := by decide +kernel
theorem d_C_enter_16 : decode prog_1_method_50_code 16 = .ok (.getfield 327, 3) := by decide +kernel
theorem d_C_enter_19 : decode prog_1_method_50_code 19 = .ok (.iload_n 2, 1) := by decide +kernel
theorem d_C_enter_20 : decode prog_1_method_50_code 20 = .ok (.invokestatic 282, 3) := by decide +kernel
theorem d_C_enter_23 : decode prog_1_method_50_code 23 = .ok (.iadd, 1) := by decide +kernel
theorem d_C_enter_24 : decode prog_1_method_50_code 24 = .ok (.sipush 150, 3) := by decide +kernel
theorem d_C_enter_27 : decode prog_1_method_50_code 27 = .ok (.if_icmp .le 5, 3) := by decide +kernel
theorem d_C_enter_32 : decode prog_1_method_50_code 32 = .ok (.aload_n 0, 1) := by decide +kernel
theorem d_C_enter_33 : decode prog_1_method_50_code 33 = .ok (.getfield 38, 3) := by decide +kernel
theorem d_C_enter_36 : decode prog_1_method_50_code 36 = .ok (.iload_n 1, 1) := by decide +kernel
theorem d_C_enter_37 : decode prog_1_method_50_code 37 = .ok (.aload_n 0, 1) := by decide +kernel
theorem d_C_enter_38 : decode prog_1_method_50_code 38 = .ok (.getfield 139, 3) := by decide +kernel
theorem d_C_enter_41 : decode prog_1_method_50_code 41 = .ok (.iload_n 3, 1) := by decide +kernel
theorem d_C_enter_42 : decode prog_1_method_50_code 42 = .ok (.iload_n 2, 1) := by decide +kernel
theorem d_C_enter_43 : decode prog_1_method_50_code 43 = .ok (.iload 4, 2) := by decide +kernel
theorem d_C_enter_45 : decode prog_1_method_50_code 45 = .ok (.iload 5, 2) := by decide +kernel
theorem d_C_enter_47 : decode prog_1_method_50_code 47 = .ok (.aload_n 0, 1) := by decide +kernel
theorem d_C_enter_48 : decode prog_1_method_50_code 48 = .ok (.iload_n 1, 1) := by decide +kernel
theorem d_C_enter_49 : decode prog_1_method_50_code 49 = .ok (.invokevirtual 135, 3) := by decide +kernel
theorem d_C_enter_52 : decode prog_1_method_50_code 52 = .ok (.invokevirtual 348, 3) := by decide +kernel
theorem d_C_enter_55 : decode prog_1_method_50_code 55 = .ok (.istore 6, 2) := by decide +kernel
theorem d_C_enter_57 : decode prog_1_method_50_code 57 = .ok (.iconst 0, 1) := by decide +kernel
theorem d_C_enter_58 : decode prog_1_method_50_code 58 = .ok (.istore 7, 2) := by decide +kernel
theorem d_C_enter_60 : decode prog_1_method_50_code 60 = .ok (.iload 7, 2) := by decide +kernel
theorem d_C_enter_62 : decode prog_1_method_50_code 62 = .ok (.bipush 6, 2) := by decide +kernel
theorem d_C_enter_64 : decode prog_1_method_50_code 64 = .ok (.if_icmp .ge 35, 3) := by decide +kernel
theorem d_C_enter_67 : decode prog_1_method_50_code 67 = .ok (.iload_n 2, 1) := by decide +kernel
theorem d_C_enter_68 : decode prog_1_method_50_code 68 = .ok (.iload 7, 2) := by decide +kernel
theorem d_C_enter_70 : decode prog_1_method_50_code 70 = .ok (.invokestatic 110, 3) := by decide +kernel
theorem d_C_enter_73 : decode prog_1_method_50_code 73 = .ok (.ifCond .eq 20, 3) := by decide +kernel
theorem d_C_enter_93 : decode prog_1_method_50_code 93 = .ok (.iinc 7 1, 3) := by decide +kernel
theorem d_C_enter_96 : decode prog_1_method_50_code 96 = .ok (.goto (-36), 3) := by decide +kernel
theorem d_C_enter_76 : decode prog_1_method_50_code 76 = .ok (.aload_n 0, 1) := by decide +kernel
theorem d_C_enter_77 : decode prog_1_method_50_code 77 = .ok (.getfield 45, 3) := by decide +kernel
theorem d_C_enter_80 : decode prog_1_method_50_code 80 = .ok (.iload 6, 2) := by decide +kernel
theorem d_C_enter_82 : decode prog_1_method_50_code 82 = .ok (.iload_n 1, 1) := by decide +kernel
theorem d_C_enter_83 : decode prog_1_method_50_code 83 = .ok (.iload 7, 2) := by decide +kernel
theorem d_C_enter_85 : decode prog_1_method_50_code 85 = .ok (.aload_n 0, 1) := by decide +kernel
theorem d_C_enter_86 : decode prog_1_method_50_code 86 = .ok (.getfield 139, 3) := by decide +kernel
theorem d_C_enter_89 : decode prog_1_method_50_code 89 = .ok (.invokevirtual 142, 3) := by decide +kernel
theorem d_C_enter_92 : decode prog_1_method_50_code 92 = .ok (.pop, 1) := by decide +kernel
theorem d_C_enter_99 : decode prog_1_method_50_code 99 = .ok (.iload 6, 2) := by decide +kernel
theorem d_C_enter_101 : decode prog_1_method_50_code 101 = .ok (.ireturn, 1) := by decide +kernel
theorem d_C_mayAnswer_0 : decode prog_1_method_49_code 0 = .ok (.iload_n 2, 1) := by decide +kernel
theorem d_C_mayAnswer_1 : decode prog_1_method_49_code 1 = .ok (.iconst 2, 1) := by decide +kernel
theorem d_C_mayAnswer_2 : decode prog_1_method_49_code 2 = .ok (.if_icmp .ne 31, 3) := by decide +kernel
theorem d_C_mayAnswer_33 : decode prog_1_method_49_code 33 = .ok (.iload_n 3, 1) := by decide +kernel
theorem d_C_mayAnswer_34 : decode prog_1_method_49_code 34 = .ok (.iconst (-1), 1) := by decide +kernel
theorem d_C_mayAnswer_35 : decode prog_1_method_49_code 35 = .ok (.if_icmp .ne 15, 3) := by decide +kernel
theorem d_C_mayAnswer_50 : decode prog_1_method_49_code 50 = .ok (.aload_n 0, 1) := by decide +kernel
theorem d_C_mayAnswer_51 : decode prog_1_method_49_code 51 = .ok (.iload_n 1, 1) := by decide +kernel
theorem d_C_mayAnswer_52 : decode prog_1_method_49_code 52 = .ok (.invokevirtual 135, 3) := by decide +kernel
theorem d_C_mayAnswer_55 : decode prog_1_method_49_code 55 = .ok (.istore 5, 2) := by decide +kernel
theorem d_C_mayAnswer_57 : decode prog_1_method_49_code 57 = .ok (.iload 5, 2) := by decide +kernel
theorem d_C_mayAnswer_59 : decode prog_1_method_49_code 59 = .ok (.iload_n 3, 1) := by decide +kernel
theorem d_C_mayAnswer_60 : decode prog_1_method_49_code 60 = .ok (.invokestatic 110, 3) := by decide +kernel
theorem d_C_mayAnswer_63 : decode prog_1_method_49_code 63 = .ok (.ifCond .eq 29, 3) := by decide +kernel
theorem d_C_mayAnswer_92 : decode prog_1_method_49_code 92 = .ok (.iconst 0, 1) := by decide +kernel
theorem d_C_mayAnswer_93 : decode prog_1_method_49_code 93 = .ok (.ireturn, 1) := by decide +kernel
theorem d_C_mayAnswer_66 : decode prog_1_method_49_code 66 = .ok (.iload 4, 2) := by decide +kernel
theorem d_C_mayAnswer_68 : decode prog_1_method_49_code 68 = .ok (.iconst (-1), 1) := by decide +kernel
theorem d_C_mayAnswer_69 : decode prog_1_method_49_code 69 = .ok (.if_icmp .eq 19, 3) := by decide +kernel
theorem d_C_mayAnswer_88 : decode prog_1_method_49_code 88 = .ok (.iconst 1, 1) := by decide +kernel
theorem d_C_mayAnswer_89 : decode prog_1_method_49_code 89 = .ok (.goto 4, 3) := by decide +kernel
theorem d_C_mayAnswer_72 : decode prog_1_method_49_code 72 = .ok (.iload 4, 2) := by decide +kernel
theorem d_C_mayAnswer_74 : decode prog_1_method_49_code 74 = .ok (.iload_n 3, 1) := by decide +kernel
theorem d_C_mayAnswer_75 : decode prog_1_method_49_code 75 = .ok (.if_icmp .eq 17, 3) := by decide +kernel
theorem d_C_mayAnswer_78 : decode prog_1_method_49_code 78 = .ok (.iload 5, 2) := by decide +kernel
theorem d_C_mayAnswer_80 : decode prog_1_method_49_code 80 = .ok (.iload 4, 2) := by decide +kernel
theorem d_C_mayAnswer_82 : decode prog_1_method_49_code 82 = .ok (.invokestatic 110, 3) := by decide +kernel
theorem d_C_mayAnswer_85 : decode prog_1_method_49_code 85 = .ok (.ifCond .eq 7, 3) := by decide +kernel
theorem d_C_mayAnswer_38 : decode prog_1_method_49_code 38 = .ok (.iload 4, 2) := by decide +kernel
theorem d_C_mayAnswer_40 : decode prog_1_method_49_code 40 = .ok (.iconst (-1), 1) := by decide +kernel
theorem d_C_mayAnswer_41 : decode prog_1_method_49_code 41 = .ok (.if_icmp .ne 7, 3) := by decide +kernel
theorem d_C_mayAnswer_48 : decode prog_1_method_49_code 48 = .ok (.iconst 0, 1) := by decide +kernel
theorem d_C_mayAnswer_49 : decode prog_1_method_49_code 49 = .ok (.ireturn, 1) := by decide +kernel
theorem d_C_mayAnswer_44 : decode prog_1_method_49_code 44 = .ok (.iconst 1, 1) := by decide +kernel
theorem d_C_mayAnswer_45 : decode prog_1_method_49_code 45 = .ok (.goto 4, 3) := by decide +kernel
theorem d_C_mayAnswer_5 : decode prog_1_method_49_code 5 = .ok (.iload 4, 2) := by decide +kernel
theorem d_C_mayAnswer_7 : decode prog_1_method_49_code 7 = .ok (.iconst (-1), 1) := by decide +kernel
theorem d_C_mayAnswer_8 : decode prog_1_method_49_code 8 = .ok (.if_icmp .ne 23, 3) := by decide +kernel
theorem d_C_mayAnswer_31 : decode prog_1_method_49_code 31 = .ok (.iconst 0, 1) := by decide +kernel
theorem d_C_mayAnswer_32 : decode prog_1_method_49_code 32 = .ok (.ireturn, 1) := by decide +kernel
theorem d_C_mayAnswer_11 : decode prog_1_method_49_code 11 = .ok (.aload_n 0, 1) := by decide +kernel
theorem d_C_mayAnswer_12 : decode prog_1_method_49_code 12 = .ok (.getfield 38, 3) := by decide +kernel
theorem d_C_mayAnswer_15 : decode prog_1_method_49_code 15 = .ok (.getfield 342, 3) := by decide +kernel
theorem d_C_mayAnswer_18 : decode prog_1_method_49_code 18 = .ok (.iload_n 1, 1) := by decide +kernel
theorem d_C_mayAnswer_19 : decode prog_1_method_49_code 19 = .ok (.iaload, 1) := by decide +kernel
theorem d_C_mayAnswer_20 : decode prog_1_method_49_code 20 = .ok (.iload_n 3, 1) := by decide +kernel
theorem d_C_mayAnswer_21 : decode prog_1_method_49_code 21 = .ok (.invokestatic 110, 3) := by decide +kernel
theorem d_C_mayAnswer_24 : decode prog_1_method_49_code 24 = .ok (.ifCond .eq 7, 3) := by decide +kernel
theorem d_C_mayAnswer_27 : decode prog_1_method_49_code 27 = .ok (.iconst 1, 1) := by decide +kernel
theorem d_C_mayAnswer_28 : decode prog_1_method_49_code 28 = .ok (.goto 4, 3) := by decide +kernel
theorem d_C_write_0 : decode prog_1_method_6_code 0 = .ok (.iload_n 1, 1) := by decide +kernel
theorem d_C_write_1 : decode prog_1_method_6_code 1 = .ok (.invokestatic 102, 3) := by decide +kernel
theorem d_C_write_4 : decode prog_1_method_6_code 4 = .ok (.ifCond .eq 12, 3) := by decide +kernel
theorem d_C_write_16 : decode prog_1_method_6_code 16 = .ok (.iconst (-1), 1) := by decide +kernel
theorem d_C_write_17 : decode prog_1_method_6_code 17 = .ok (.ireturn, 1) := by decide +kernel
theorem d_C_write_7 : decode prog_1_method_6_code 7 = .ok (.iload_n 3, 1) := by decide +kernel
theorem d_C_write_8 : decode prog_1_method_6_code 8 = .ok (.ifCond .lt 8, 3) := by decide +kernel
theorem d_C_write_11 : decode prog_1_method_6_code 11 = .ok (.iload_n 3, 1) := by decide +kernel
theorem d_C_write_12 : decode prog_1_method_6_code 12 = .ok (.iconst 2, 1) := by decide +kernel
theorem d_C_write_13 : decode prog_1_method_6_code 13 = .ok (.if_icmp .le 5, 3) := by decide +kernel
theorem d_C_write_18 : decode prog_1_method_6_code 18 = .ok (.iload_n 2, 1) := by decide +kernel
theorem d_C_write_19 : decode prog_1_method_6_code 19 = .ok (.iconst 1, 1) := by decide +kernel
theorem d_C_write_20 : decode prog_1_method_6_code 20 = .ok (.if_icmp .lt 17, 3) := by decide +kernel
theorem d_C_write_37 : decode prog_1_method_6_code 37 = .ok (.iconst (-1), 1) := by decide +kernel
theorem d_C_write_38 : decode prog_1_method_6_code 38 = .ok (.ireturn, 1) := by decide +kernel
theorem d_C_write_23 : decode prog_1_method_6_code 23 = .ok (.iload_n 2, 1) := by decide +kernel
theorem d_C_write_24 : decode prog_1_method_6_code 24 = .ok (.bipush 63, 2) := by decide +kernel
theorem d_C_write_26 : decode prog_1_method_6_code 26 = .ok (.if_icmp .gt 11, 3) := by decide +kernel
theorem d_C_write_29 : decode prog_1_method_6_code 29 = .ok (.iload_n 2, 1) := by decide +kernel
theorem d_C_write_30 : decode prog_1_method_6_code 30 = .ok (.iload_n 1, 1) := by decide +kernel
theorem d_C_write_31 : decode prog_1_method_6_code 31 = .ok (.invokestatic 110, 3) := by decide +kernel
theorem d_C_write_34 : decode prog_1_method_6_code 34 = .ok (.ifCond .eq 5, 3) := by decide +kernel
theorem d_C_write_39 : decode prog_1_method_6_code 39 = .ok (.aload_n 0, 1) := by decide +kernel
theorem d_C_write_40 : decode prog_1_method_6_code 40 = .ok (.iload_n 1, 1) := by decide +kernel
theorem d_C_write_41 : decode prog_1_method_6_code 41 = .ok (.iload_n 3, 1) := by decide +kernel
theorem d_C_write_42 : decode prog_1_method_6_code 42 = .ok (.iload 4, 2) := by decide +kernel
theorem d_C_write_44 : decode prog_1_method_6_code 44 = .ok (.iload 5, 2) := by decide +kernel
theorem d_C_write_46 : decode prog_1_method_6_code 46 = .ok (.invokevirtual 114, 3) := by decide +kernel
theorem d_C_write_49 : decode prog_1_method_6_code 49 = .ok (.ifCond .ne 5, 3) := by decide +kernel
theorem d_C_write_54 : decode prog_1_method_6_code 54 = .ok (.aload_n 0, 1) := by decide +kernel
theorem d_C_write_55 : decode prog_1_method_6_code 55 = .ok (.iload_n 1, 1) := by decide +kernel
theorem d_C_write_56 : decode prog_1_method_6_code 56 = .ok (.iload_n 2, 1) := by decide +kernel
theorem d_C_write_57 : decode prog_1_method_6_code 57 = .ok (.iload_n 3, 1) := by decide +kernel
theorem d_C_write_58 : decode prog_1_method_6_code 58 = .ok (.iload 4, 2) := by decide +kernel
theorem d_C_write_60 : decode prog_1_method_6_code 60 = .ok (.iload 5, 2) := by decide +kernel
theorem d_C_write_62 : decode prog_1_method_6_code 62 = .ok (.invokevirtual 118, 3) := by decide +kernel
theorem d_C_write_65 : decode prog_1_method_6_code 65 = .ok (.ireturn, 1) := by decide +kernel
theorem d_C_write_52 : decode prog_1_method_6_code 52 = .ok (.iconst (-1), 1) := by decide +kernel
theorem d_C_write_53 : decode prog_1_method_6_code 53 = .ok (.ireturn, 1) := by decide +kernel
theorem d_P_delay_0 : decode prog_9_method_8_code 0 = .ok (.aload_n 0, 1) := by decide +kernel
theorem d_P_delay_1 : decode prog_9_method_8_code 1 = .ok (.getfield 29, 3) := by decide +kernel
theorem d_P_delay_4 : decode prog_9_method_8_code 4 = .ok (.iload_n 1, 1) := by decide +kernel
theorem d_P_delay_5 : decode prog_9_method_8_code 5 = .ok (.iaload, 1) := by decide +kernel
theorem d_P_delay_6 : decode prog_9_method_8_code 6 = .ok (.iload_n 2, 1) := by decide +kernel
theorem d_P_delay_7 : decode prog_9_method_8_code 7 = .ok (.iadd, 1) := by decide +kernel
theorem d_P_delay_8 : decode prog_9_method_8_code 8 = .ok (.sipush 999, 3) := by decide +kernel
theorem d_P_delay_11 : decode prog_9_method_8_code 11 = .ok (.if_icmp .le 5, 3) := by decide +kernel
theorem d_P_delay_16 : decode prog_9_method_8_code 16 = .ok (.aload_n 0, 1) := by decide +kernel
theorem d_P_delay_17 : decode prog_9_method_8_code 17 = .ok (.getfield 29, 3) := by decide +kernel
theorem d_P_delay_20 : decode prog_9_method_8_code 20 = .ok (.iload_n 1, 1) := by decide +kernel
theorem d_P_delay_21 : decode prog_9_method_8_code 21 = .ok (.aload_n 0, 1) := by decide +kernel
theorem d_P_delay_22 : decode prog_9_method_8_code 22 = .ok (.aload_n 0, 1) := by decide +kernel
theorem d_P_delay_23 : decode prog_9_method_8_code 23 = .ok (.getfield 23, 3) := by decide +kernel
theorem d_P_delay_26 : decode prog_9_method_8_code 26 = .ok (.iload_n 1, 1) := by decide +kernel
theorem d_P_delay_27 : decode prog_9_method_8_code 27 = .ok (.iaload, 1) := by decide +kernel
theorem d_P_delay_28 : decode prog_9_method_8_code 28 = .ok (.aload_n 0, 1) := by decide +kernel
theorem d_P_delay_29 : decode prog_9_method_8_code 29 = .ok (.getfield 26, 3) := by decide +kernel
theorem d_P_delay_32 : decode prog_9_method_8_code 32 = .ok (.iload_n 1, 1) := by decide +kernel
theorem d_P_delay_33 : decode prog_9_method_8_code 33 = .ok (.iaload, 1) := by decide +kernel
theorem d_P_delay_34 : decode prog_9_method_8_code 34 = .ok (.aload_n 0, 1) := by decide +kernel
theorem d_P_delay_35 : decode prog_9_method_8_code 35 = .ok (.getfield 29, 3) := by decide +kernel
theorem d_P_delay_38 : decode prog_9_method_8_code 38 = .ok (.iload_n 1, 1) := by decide +kernel
theorem d_P_delay_39 : decode prog_9_method_8_code 39 = .ok (.iaload, 1) := by decide +kernel
theorem d_P_delay_40 : decode prog_9_method_8_code 40 = .ok (.iload_n 2, 1) := by decide +kernel
theorem d_P_delay_41 : decode prog_9_method_8_code 41 = .ok (.iadd, 1) := by decide +kernel
theorem d_P_delay_42 : decode prog_9_method_8_code 42 = .ok (.invokevirtual 71, 3) := by decide +kernel
theorem d_P_delay_45 : decode prog_9_method_8_code 45 = .ok (.iastore, 1) := by decide +kernel
theorem d_P_delay_46 : decode prog_9_method_8_code 46 = .ok (.aload_n 0, 1) := by decide +kernel
theorem d_P_delay_47 : decode prog_9_method_8_code 47 = .ok (.getfield 29, 3) := by decide +kernel
theorem d_P_delay_50 : decode prog_9_method_8_code 50 = .ok (.iload_n 1, 1) := by decide +kernel
theorem d_P_delay_51 : decode prog_9_method_8_code 51 = .ok (.iaload, 1) := by decide +kernel
theorem d_P_delay_52 : decode prog_9_method_8_code 52 = .ok (.ireturn, 1) := by decide +kernel
theorem d_P_delay_14 : decode prog_9_method_8_code 14 = .ok (.iconst (-1), 1) := by decide +kernel
theorem d_P_delay_15 : decode prog_9_method_8_code 15 = .ok (.ireturn, 1) := by decide +kernel
theorem d_P_isCopy_0 : decode prog_9_method_2_code 0 = .ok (.iload_n 1, 1) := by decide +kernel
theorem d_P_isCopy_1 : decode prog_9_method_2_code 1 = .ok (.ifCond .lt 15, 3) := by decide +kernel
theorem d_P_isCopy_16 : decode prog_9_method_2_code 16 = .ok (.iconst 0, 1) := by decide +kernel
theorem d_P_isCopy_17 : decode prog_9_method_2_code 17 = .ok (.ireturn, 1) := by decide +kernel
theorem d_P_isCopy_4 : decode prog_9_method_2_code 4 = .ok (.iload_n 1, 1) := by decide +kernel
theorem d_P_isCopy_5 : decode prog_9_method_2_code 5 = .ok (.aload_n 0, 1) := by decide +kernel
theorem d_P_isCopy_6 : decode prog_9_method_2_code 6 = .ok (.getfield 35, 3) := by decide +kernel
theorem d_P_isCopy_9 : decode prog_9_method_2_code 9 = .ok (.if_icmp .ge 7, 3) := by decide +kernel
theorem d_P_isCopy_12 : decode prog_9_method_2_code 12 = .ok (.iconst 1, 1) := by decide +kernel
theorem d_P_isCopy_13 : decode prog_9_method_2_code 13 = .ok (.goto 4, 3) := by decide +kernel
theorem d_P_isUnderWay_0 : decode prog_9_method_3_code 0 = .ok (.aload_n 0, 1) := by decide +kernel
theorem d_P_isUnderWay_1 : decode prog_9_method_3_code 1 = .ok (.iload_n 1, 1) := by decide +kernel
theorem d_P_isUnderWay_2 : decode prog_9_method_3_code 2 = .ok (.invokevirtual 39, 3) := by decide +kernel
theorem d_P_isUnderWay_5 : decode prog_9_method_3_code 5 = .ok (.ifCond .eq 16, 3) := by decide +kernel
theorem d_P_isUnderWay_21 : decode prog_9_method_3_code 21 = .ok (.iconst 0, 1) := by decide +kernel
theorem d_P_isUnderWay_22 : decode prog_9_method_3_code 22 = .ok (.ireturn, 1) := by decide +kernel
theorem d_P_isUnderWay_8 : decode prog_9_method_3_code 8 = .ok (.aload_n 0, 1) := by decide +kernel
theorem d_P_isUnderWay_9 : decode prog_9_method_3_code 9 = .ok (.getfield 32, 3) := by decide +kernel
theorem d_P_isUnderWay_12 : decode prog_9_method_3_code 12 = .ok (.iload_n 1, 1) := by decide +kernel
theorem d_P_isUnderWay_13 : decode prog_9_method_3_code 13 = .ok (.iaload, 1) := by decide +kernel
theorem d_P_isUnderWay_14 : decode prog_9_method_3_code 14 = .ok (.ifCond .ne 7, 3) := by decide +kernel
theorem d_P_isUnderWay_17 : decode prog_9_method_3_code 17 = .ok (.iconst 1, 1) := by decide +kernel
theorem d_P_isUnderWay_18 : decode prog_9_method_3_code 18 = .ok (.goto 4, 3) := by decide +kernel
theorem d_C_late_0 : decode prog_1_method_7_code 0 = .ok (.aload_n 0, 1) := by decide +kernel
theorem d_C_late_1 : decode prog_1_method_7_code 1 = .ok (.getfield 45, 3) := by decide +kernel
theorem d_C_late_4 : decode prog_1_method_7_code 4 = .ok (.iload_n 1, 1) := by decide +kernel
theorem d_C_late_5 : decode prog_1_method_7_code 5 = .ok (.invokevirtual 122, 3) := by decide +kernel
theorem d_C_late_8 : decode prog_1_method_7_code 8 = .ok (.ifCond .eq 14, 3) := by decide +kernel
theorem d_C_late_22 : decode prog_1_method_7_code 22 = .ok (.iconst (-1), 1) := by decide +kernel
theorem d_C_late_23 : decode prog_1_method_7_code 23 = .ok (.ireturn, 1) := by decide +kernel
theorem d_C_late_11 : decode prog_1_method_7_code 11 = .ok (.iload_n 2, 1) := by decide +kernel
theorem d_C_late_12 : decode prog_1_method_7_code 12 = .ok (.iconst 1, 1) := by decide +kernel
theorem d_C_late_13 : decode prog_1_method_7_code 13 = .ok (.if_icmp .lt 9, 3) := by decide +kernel
theorem d_C_late_16 : decode prog_1_method_7_code 16 = .ok (.iload_n 2, 1) := by decide +kernel
theorem d_C_late_17 : decode prog_1_method_7_code 17 = .ok (.bipush 99, 2) := by decide +kernel
theorem d_C_late_19 : decode prog_1_method_7_code 19 = .ok (.if_icmp .le 5, 3) := by decide +kernel
theorem d_C_late_24 : decode prog_1_method_7_code 24 = .ok (.aload_n 0, 1) := by decide +kernel
theorem d_C_late_25 : decode prog_1_method_7_code 25 = .ok (.getfield 45, 3) := by decide +kernel
theorem d_C_late_28 : decode prog_1_method_7_code 28 = .ok (.iload_n 1, 1) := by decide +kernel
theorem d_C_late_29 : decode prog_1_method_7_code 29 = .ok (.iload_n 2, 1) := by decide +kernel
theorem d_C_late_30 : decode prog_1_method_7_code 30 = .ok (.invokevirtual 125, 3) := by decide +kernel
theorem d_C_late_33 : decode prog_1_method_7_code 33 = .ok (.ireturn, 1) := by decide +kernel
theorem d_C_lose_0 : decode prog_1_method_8_code 0 = .ok (.aload_n 0, 1) := by decide +kernel
theorem d_C_lose_1 : decode prog_1_method_8_code 1 = .ok (.getfield 45, 3) := by decide +kernel
theorem d_C_lose_4 : decode prog_1_method_8_code 4 = .ok (.iload_n 1, 1) := by decide +kernel
theorem d_C_lose_5 : decode prog_1_method_8_code 5 = .ok (.invokevirtual 122, 3) := by decide +kernel
theorem d_C_lose_8 : decode prog_1_method_8_code 8 = .ok (.ifCond .ne 5, 3) := by decide +kernel
theorem d_C_lose_13 : decode prog_1_method_8_code 13 = .ok (.aload_n 0, 1) := by decide +kernel
theorem d_C_lose_14 : decode prog_1_method_8_code 14 = .ok (.getfield 45, 3) := by decide +kernel
theorem d_C_lose_17 : decode prog_1_method_8_code 17 = .ok (.getfield 129, 3) := by decide +kernel
theorem d_C_lose_20 : decode prog_1_method_8_code 20 = .ok (.iload_n 1, 1) := by decide +kernel
theorem d_C_lose_21 : decode prog_1_method_8_code 21 = .ok (.iconst 2, 1) := by decide +kernel
theorem d_C_lose_22 : decode prog_1_method_8_code 22 = .ok (.iastore, 1) := by decide +kernel
theorem d_C_lose_23 : decode prog_1_method_8_code 23 = .ok (.iconst 1, 1) := by decide +kernel
theorem d_C_lose_24 : decode prog_1_method_8_code 24 = .ok (.ireturn, 1) := by decide +kernel
theorem d_C_lose_11 : decode prog_1_method_8_code 11 = .ok (.iconst 0, 1) := by decide +kernel
theorem d_C_lose_12 : decode prog_1_method_8_code 12 = .ok (.ireturn, 1) := by decide +kernel
theorem d_L_isLetter_0 : decode prog_7_method_2_code 0 = .ok (.iload_n 1, 1) := by decide +kernel
theorem d_L_isLetter_1 : decode prog_7_method_2_code 1 = .ok (.ifCond .lt 15, 3) := by decide +kernel
theorem d_L_isLetter_16 : decode prog_7_method_2_code 16 = .ok (.iconst 0, 1) := by decide +kernel
theorem d_L_isLetter_17 : decode prog_7_method_2_code 17 = .ok (.ireturn, 1) := by decide +kernel
theorem d_L_isLetter_4 : decode prog_7_method_2_code 4 = .ok (.iload_n 1, 1) := by decide +kernel
theorem d_L_isLetter_5 : decode prog_7_method_2_code 5 = .ok (.aload_n 0, 1) := by decide +kernel
theorem d_L_isLetter_6 : decode prog_7_method_2_code 6 = .ok (.getfield 57, 3) := by decide +kernel
theorem d_L_isLetter_9 : decode prog_7_method_2_code 9 = .ok (.if_icmp .ge 7, 3) := by decide +kernel
theorem d_L_isLetter_12 : decode prog_7_method_2_code 12 = .ok (.iconst 1, 1) := by decide +kernel
theorem d_L_isLetter_13 : decode prog_7_method_2_code 13 = .ok (.goto 4, 3) := by decide +kernel
theorem d_C_again_0 : decode prog_1_method_9_code 0 = .ok (.aload_n 0, 1) := by decide +kernel
theorem d_C_again_1 : decode prog_1_method_9_code 1 = .ok (.getfield 38, 3) := by decide +kernel
theorem d_C_again_4 : decode prog_1_method_9_code 4 = .ok (.iload_n 1, 1) := by decide +kernel
theorem d_C_again_5 : decode prog_1_method_9_code 5 = .ok (.invokevirtual 132, 3) := by decide +kernel
theorem d_C_again_8 : decode prog_1_method_9_code 8 = .ok (.ifCond .eq 22, 3) := by decide +kernel
theorem d_C_again_30 : decode prog_1_method_9_code 30 = .ok (.iconst (-1), 1) := by decide +kernel
theorem d_C_again_31 : decode prog_1_method_9_code 31 = .ok (.ireturn, 1) := by decide +kernel
theorem d_C_again_11 : decode prog_1_method_9_code 11 = .ok (.iload_n 2, 1) := by decide +kernel
theorem d_C_again_12 : decode prog_1_method_9_code 12 = .ok (.invokestatic 102, 3) := by decide +kernel
theorem d_C_again_15 : decode prog_1_method_9_code 15 = .ok (.ifCond .eq 15, 3) := by decide +kernel
theorem d_C_again_18 : decode prog_1_method_9_code 18 = .ok (.iload_n 3, 1) := by decide +kernel
theorem d_C_again_19 : decode prog_1_method_9_code 19 = .ok (.invokestatic 102, 3) := by decide +kernel
theorem d_C_again_22 : decode prog_1_method_9_code 22 = .ok (.ifCond .eq 8, 3) := by decide +kernel
theorem d_C_again_25 : decode prog_1_method_9_code 25 = .ok (.iload_n 2, 1) := by decide +kernel
theorem d_C_again_26 : decode prog_1_method_9_code 26 = .ok (.iload_n 3, 1) := by decide +kernel
theorem d_C_again_27 : decode prog_1_method_9_code 27 = .ok (.if_icmp .ne 5, 3) := by decide +kernel
theorem d_C_again_32 : decode prog_1_method_9_code 32 = .ok (.aload_n 0, 1) := by decide +kernel
theorem d_C_again_33 : decode prog_1_method_9_code 33 = .ok (.iload_n 2, 1) := by decide +kernel
theorem d_C_again_34 : decode prog_1_method_9_code 34 = .ok (.invokevirtual 135, 3) := by decide +kernel
theorem d_C_again_37 : decode prog_1_method_9_code 37 = .ok (.iload_n 1, 1) := by decide +kernel
theorem d_C_again_38 : decode prog_1_method_9_code 38 = .ok (.invokestatic 110, 3) := by decide +kernel
theorem d_C_again_41 : decode prog_1_method_9_code 41 = .ok (.ifCond .ne 5, 3) := by decide +kernel
theorem d_C_again_46 : decode prog_1_method_9_code 46 = .ok (.aload_n 0, 1) := by decide +kernel
theorem d_C_again_47 : decode prog_1_method_9_code 47 = .ok (.getfield 45, 3) := by decide +kernel
theorem d_C_again_50 : decode prog_1_method_9_code 50 = .ok (.iload_n 1, 1) := by decide +kernel
theorem d_C_again_51 : decode prog_1_method_9_code 51 = .ok (.iload_n 2, 1) := by decide +kernel
theorem d_C_again_52 : decode prog_1_method_9_code 52 = .ok (.iload_n 3, 1) := by decide +kernel
theorem d_C_again_53 : decode prog_1_method_9_code 53 = .ok (.aload_n 0, 1) := by decide +kernel
theorem d_C_again_54 : decode prog_1_method_9_code 54 = .ok (.getfield 139, 3) := by decide +kernel
theorem d_C_again_57 : decode prog_1_method_9_code 57 = .ok (.invokevirtual 142, 3) := by decide +kernel
theorem d_C_again_60 : decode prog_1_method_9_code 60 = .ok (.ireturn, 1) := by decide +kernel
theorem d_C_again_44 : decode prog_1_method_9_code 44 = .ok (.iconst (-1), 1) := by decide +kernel
theorem d_C_again_45 : decode prog_1_method_9_code 45 = .ok (.ireturn, 1) := by decide +kernel
theorem d_P_setSplit_0 : decode prog_9_method_6_code 0 = .ok (.aload_n 0, 1) := by decide +kernel
theorem d_P_setSplit_1 : decode prog_9_method_6_code 1 = .ok (.iload_n 1, 1) := by decide +kernel
theorem d_P_setSplit_2 : decode prog_9_method_6_code 2 = .ok (.putfield 59, 3) := by decide +kernel
theorem d_P_setSplit_5 : decode prog_9_method_6_code 5 = .ok (.aload_n 0, 1) := by decide +kernel
theorem d_P_setSplit_6 : decode prog_9_method_6_code 6 = .ok (.iload_n 2, 1) := by decide +kernel
theorem d_P_setSplit_7 : decode prog_9_method_6_code 7 = .ok (.putfield 62, 3) := by decide +kernel
theorem d_P_setSplit_10 : decode prog_9_method_6_code 10 = .ok (.aload_n 0, 1) := by decide +kernel
theorem d_P_setSplit_11 : decode prog_9_method_6_code 11 = .ok (.iload_n 3, 1) := by decide +kernel
theorem d_P_setSplit_12 : decode prog_9_method_6_code 12 = .ok (.putfield 65, 3) := by decide +kernel
theorem d_P_setSplit_15 : decode prog_9_method_6_code 15 = .ok (.return_, 1) := by decide +kernel
theorem d_C_split_0 : decode prog_1_method_10_code 0 = .ok (.iload_n 1, 1) := by decide +kernel
theorem d_C_split_1 : decode prog_1_method_10_code 1 = .ok (.ifCond .lt 25, 3) := by decide +kernel
theorem d_C_split_26 : decode prog_1_method_10_code 26 = .ok (.iconst 0, 1) := by decide +kernel
theorem d_C_split_27 : decode prog_1_method_10_code 27 = .ok (.ireturn, 1) := by decide +kernel
theorem d_C_split_4 : decode prog_1_method_10_code 4 = .ok (.iload_n 1, 1) := by decide +kernel
theorem d_C_split_5 : decode prog_1_method_10_code 5 = .ok (.bipush 63, 2) := by decide +kernel
theorem d_C_split_7 : decode prog_1_method_10_code 7 = .ok (.if_icmp .gt 19, 3) := by decide +kernel
theorem d_C_split_10 : decode prog_1_method_10_code 10 = .ok (.iload_n 2, 1) := by decide +kernel
theorem d_C_split_11 : decode prog_1_method_10_code 11 = .ok (.ifCond .lt 15, 3) := by decide +kernel
theorem d_C_split_14 : decode prog_1_method_10_code 14 = .ok (.iload_n 2, 1) := by decide +kernel
theorem d_C_split_15 : decode prog_1_method_10_code 15 = .ok (.iload_n 3, 1) := by decide +kernel
theorem d_C_split_16 : decode prog_1_method_10_code 16 = .ok (.if_icmp .gt 10, 3) := by decide +kernel
theorem d_C_split_19 : decode prog_1_method_10_code 19 = .ok (.iload_n 3, 1) := by decide +kernel
theorem d_C_split_20 : decode prog_1_method_10_code 20 = .ok (.sipush 999, 3) := by decide +kernel
theorem d_C_split_23 : decode prog_1_method_10_code 23 = .ok (.if_icmp .lt 5, 3) := by decide +kernel
theorem d_C_split_28 : decode prog_1_method_10_code 28 = .ok (.aload_n 0, 1) := by decide +kernel
theorem d_C_split_29 : decode prog_1_method_10_code 29 = .ok (.getfield 45, 3) := by decide +kernel
theorem d_C_split_32 : decode prog_1_method_10_code 32 = .ok (.iload_n 1, 1) := by decide +kernel
theorem d_C_split_33 : decode prog_1_method_10_code 33 = .ok (.iload_n 2, 1) := by decide +kernel
theorem d_C_split_34 : decode prog_1_method_10_code 34 = .ok (.iload_n 3, 1) := by decide +kernel
theorem d_C_split_35 : decode prog_1_method_10_code 35 = .ok (.invokevirtual 146, 3) := by decide +kernel
theorem d_C_split_38 : decode prog_1_method_10_code 38 = .ok (.iconst 1, 1) := by decide +kernel
theorem d_C_split_39 : decode prog_1_method_10_code 39 = .ok (.ireturn, 1) := by decide +kernel
theorem d_D_holds_0 : decode prog_4_method_2_code 0 = .ok (.iload_n 1, 1) := by decide +kernel
theorem d_D_holds_1 : decode prog_4_method_2_code 1 = .ok (.invokestatic 29, 3) := by decide +kernel
theorem d_D_holds_4 : decode prog_4_method_2_code 4 = .ok (.ifCond .eq 20, 3) := by decide +kernel
theorem d_D_holds_24 : decode prog_4_method_2_code 24 = .ok (.iconst 0, 1) := by decide +kernel
theorem d_D_holds_25 : decode prog_4_method_2_code 25 = .ok (.ireturn, 1) := by decide +kernel
theorem d_D_holds_7 : decode prog_4_method_2_code 7 = .ok (.aload_n 0, 1) := by decide +kernel
theorem d_D_holds_8 : decode prog_4_method_2_code 8 = .ok (.getfield 20, 3) := by decide +kernel
theorem d_D_holds_11 : decode prog_4_method_2_code 11 = .ok (.iload_n 1, 1) := by decide +kernel
theorem d_D_holds_12 : decode prog_4_method_2_code 12 = .ok (.iaload, 1) := by decide +kernel
theorem d_D_holds_13 : decode prog_4_method_2_code 13 = .ok (.iload_n 2, 1) := by decide +kernel
theorem d_D_holds_14 : decode prog_4_method_2_code 14 = .ok (.invokestatic 33, 3) := by decide +kernel
theorem d_D_holds_17 : decode prog_4_method_2_code 17 = .ok (.ifCond .eq 7, 3) := by decide +kernel
theorem d_D_holds_20 : decode prog_4_method_2_code 20 = .ok (.iconst 1, 1) := by decide +kernel
theorem d_D_holds_21 : decode prog_4_method_2_code 21 = .ok (.goto 4, 3) := by decide +kernel
theorem d_D_put_0 : decode prog_4_method_4_code 0 = .ok (.iload_n 1, 1) := by decide +kernel
theorem d_D_put_1 : decode prog_4_method_4_code 1 = .ok (.invokestatic 29, 3) := by decide +kernel
theorem d_D_put_4 : decode prog_4_method_4_code 4 = .ok (.ifCond .eq 14, 3) := by decide +kernel
theorem d_D_put_18 : decode prog_4_method_4_code 18 = .ok (.return_, 1) := by decide +kernel
theorem d_D_put_7 : decode prog_4_method_4_code 7 = .ok (.aload_n 0, 1) := by decide +kernel
theorem d_D_put_8 : decode prog_4_method_4_code 8 = .ok (.getfield 16, 3) := by decide +kernel
theorem d_D_put_11 : decode prog_4_method_4_code 11 = .ok (.iload_n 1, 1) := by decide +kernel
theorem d_D_put_12 : decode prog_4_method_4_code 12 = .ok (.iaload, 1) := by decide +kernel
theorem d_D_put_13 : decode prog_4_method_4_code 13 = .ok (.bipush 30, 2) := by decide +kernel
theorem d_D_put_15 : decode prog_4_method_4_code 15 = .ok (.if_icmp .lt 4, 3) := by decide +kernel
theorem d_D_put_19 : decode prog_4_method_4_code 19 = .ok (.aload_n 0, 1) := by decide +kernel
theorem d_D_put_20 : decode prog_4_method_4_code 20 = .ok (.getfield 11, 3) := by decide +kernel
theorem d_D_put_23 : decode prog_4_method_4_code 23 = .ok (.iload_n 1, 1) := by decide +kernel
theorem d_D_put_24 : decode prog_4_method_4_code 24 = .ok (.aaload, 1) := by decide +kernel
theorem d_D_put_25 : decode prog_4_method_4_code 25 = .ok (.aload_n 0, 1) := by decide +kernel
theorem d_D_put_26 : decode prog_4_method_4_code 26 = .ok (.getfield 16, 3) := by decide +kernel
theorem d_D_put_29 : decode prog_4_method_4_code 29 = .ok (.iload_n 1, 1) := by decide +kernel
theorem d_D_put_30 : decode prog_4_method_4_code 30 = .ok (.iaload, 1) := by decide +kernel
theorem d_D_put_31 : decode prog_4_method_4_code 31 = .ok (.iload_n 2, 1) := by decide +kernel
theorem d_D_put_32 : decode prog_4_method_4_code 32 = .ok (.iastore, 1) := by decide +kernel
theorem d_D_put_33 : decode prog_4_method_4_code 33 = .ok (.aload_n 0, 1) := by decide +kernel
theorem d_D_put_34 : decode prog_4_method_4_code 34 = .ok (.getfield 16, 3) := by decide +kernel
theorem d_D_put_37 : decode prog_4_method_4_code 37 = .ok (.iload_n 1, 1) := by decide +kernel
theorem d_D_put_38 : decode prog_4_method_4_code 38 = .ok (.dup2, 1) := by decide +kernel
theorem d_D_put_39 : decode prog_4_method_4_code 39 = .ok (.iaload, 1) := by decide +kernel
theorem d_D_put_40 : decode prog_4_method_4_code 40 = .ok (.iconst 1, 1) := by decide +kernel
theorem d_D_put_41 : decode prog_4_method_4_code 41 = .ok (.iadd, 1) := by decide +kernel
theorem d_D_put_42 : decode prog_4_method_4_code 42 = .ok (.iastore, 1) := by decide +kernel
theorem d_D_put_43 : decode prog_4_method_4_code 43 = .ok (.aload_n 0, 1) := by decide +kernel
theorem d_D_put_44 : decode prog_4_method_4_code 44 = .ok (.getfield 20, 3) := by decide +kernel
theorem d_D_put_47 : decode prog_4_method_4_code 47 = .ok (.iload_n 1, 1) := by decide +kernel
theorem d_D_put_48 : decode prog_4_method_4_code 48 = .ok (.dup2, 1) := by decide +kernel
theorem d_D_put_49 : decode prog_4_method_4_code 49 = .ok (.iaload, 1) := by decide +kernel
theorem d_D_put_50 : decode prog_4_method_4_code 50 = .ok (.iload_n 2, 1) := by decide +kernel
theorem d_D_put_51 : decode prog_4_method_4_code 51 = .ok (.invokestatic 37, 3) := by decide +kernel
theorem d_D_put_54 : decode prog_4_method_4_code 54 = .ok (.ior, 1) := by decide +kernel
theorem d_D_put_55 : decode prog_4_method_4_code 55 = .ok (.iastore, 1) := by decide +kernel
theorem d_D_put_56 : decode prog_4_method_4_code 56 = .ok (.return_, 1) := by decide +kernel
theorem d_C_bring_0 : decode prog_1_method_52_code 0 = .ok (.iload_n 2, 1) := by decide +kernel
theorem d_C_bring_1 : decode prog_1_method_52_code 1 = .ok (.invokestatic 102, 3) := by decide +kernel
theorem d_C_bring_4 : decode prog_1_method_52_code 4 = .ok (.ifCond .eq 36, 3) := by decide +kernel
theorem d_C_bring_40 : decode prog_1_method_52_code 40 = .ok (.return_, 1) := by decide +kernel
theorem d_C_bring_7 : decode prog_1_method_52_code 7 = .ok (.aload_n 0, 1) := by decide +kernel
theorem d_C_bring_8 : decode prog_1_method_52_code 8 = .ok (.iload_n 2, 1) := by decide +kernel
theorem d_C_bring_9 : decode prog_1_method_52_code 9 = .ok (.invokevirtual 135, 3) := by decide +kernel
theorem d_C_bring_12 : decode prog_1_method_52_code 12 = .ok (.iload_n 1, 1) := by decide +kernel
theorem d_C_bring_13 : decode prog_1_method_52_code 13 = .ok (.invokestatic 110, 3) := by decide +kernel
theorem d_C_bring_16 : decode prog_1_method_52_code 16 = .ok (.ifCond .ne 24, 3) := by decide +kernel
theorem d_C_bring_19 : decode prog_1_method_52_code 19 = .ok (.aload_n 0, 1) := by decide +kernel
theorem d_C_bring_20 : decode prog_1_method_52_code 20 = .ok (.getfield 52, 3) := by decide +kernel
theorem d_C_bring_23 : decode prog_1_method_52_code 23 = .ok (.iload_n 2, 1) := by decide +kernel
theorem d_C_bring_24 : decode prog_1_method_52_code 24 = .ok (.iload_n 1, 1) := by decide +kernel
theorem d_C_bring_25 : decode prog_1_method_52_code 25 = .ok (.invokevirtual 155, 3) := by decide +kernel
theorem d_C_bring_28 : decode prog_1_method_52_code 28 = .ok (.ifCond .ne 12, 3) := by decide +kernel
theorem d_C_bring_31 : decode prog_1_method_52_code 31 = .ok (.aload_n 0, 1) := by decide +kernel
theorem d_C_bring_32 : decode prog_1_method_52_code 32 = .ok (.getfield 52, 3) := by decide +kernel
theorem d_C_bring_35 : decode prog_1_method_52_code 35 = .ok (.iload_n 2, 1) := by decide +kernel
theorem d_C_bring_36 : decode prog_1_method_52_code 36 = .ok (.iload_n 1, 1) := by decide +kernel
theorem d_C_bring_37 : decode prog_1_method_52_code 37 = .ok (.invokevirtual 355, 3) := by decide +kernel
theorem d_C_bringCopies_0 : decode prog_1_method_51_code 0 = .ok (.iconst 0, 1) := by decide +kernel
theorem d_C_bringCopies_1 : decode prog_1_method_51_code 1 = .ok (.istore_n 1, 1) := by decide +kernel
theorem d_C_bringCopies_2 : decode prog_1_method_51_code 2 = .ok (.iload_n 1, 1) := by decide +kernel
theorem d_C_bringCopies_3 : decode prog_1_method_51_code 3 = .ok (.aload_n 0, 1) := by decide +kernel
theorem d_C_bringCopies_4 : decode prog_1_method_51_code 4 = .ok (.getfield 45, 3) := by decide +kernel
theorem d_C_bringCopies_7 : decode prog_1_method_51_code 7 = .ok (.getfield 327, 3) := by decide +kernel
theorem d_C_bringCopies_10 : decode prog_1_method_51_code 10 = .ok (.if_icmp .ge 69, 3) := by decide +kernel
theorem d_C_bringCopies_13 : decode prog_1_method_51_code 13 = .ok (.aload_n 0, 1) := by decide +kernel
theorem d_C_bringCopies_14 : decode prog_1_method_51_code 14 = .ok (.getfield 45, 3) := by decide +kernel
theorem d_C_bringCopies_17 : decode prog_1_method_51_code 17 = .ok (.getfield 129, 3) := by decide +kernel
theorem d_C_bringCopies_20 : decode prog_1_method_51_code 20 = .ok (.iload_n 1, 1) := by decide +kernel
theorem d_C_bringCopies_21 : decode prog_1_method_51_code 21 = .ok (.iaload, 1) := by decide +kernel
theorem d_C_bringCopies_22 : decode prog_1_method_51_code 22 = .ok (.ifCond .ne 51, 3) := by decide +kernel
theorem d_C_bringCopies_73 : decode prog_1_method_51_code 73 = .ok (.iinc 1 1, 3) := by decide +kernel
theorem d_C_bringCopies_76 : decode prog_1_method_51_code 76 = .ok (.goto (-74), 3) := by decide +kernel
theorem d_C_bringCopies_25 : decode prog_1_method_51_code 25 = .ok (.aload_n 0, 1) := by decide +kernel
theorem d_C_bringCopies_26 : decode prog_1_method_51_code 26 = .ok (.getfield 45, 3) := by decide +kernel
theorem d_C_bringCopies_29 : decode prog_1_method_51_code 29 = .ok (.getfield 204, 3) := by decide +kernel
theorem d_C_bringCopies_32 : decode prog_1_method_51_code 32 = .ok (.iload_n 1, 1) := by decide +kernel
theorem d_C_bringCopies_33 : decode prog_1_method_51_code 33 = .ok (.iaload, 1) := by decide +kernel
theorem d_C_bringCopies_34 : decode prog_1_method_51_code 34 = .ok (.aload_n 0, 1) := by decide +kernel
theorem d_C_bringCopies_35 : decode prog_1_method_51_code 35 = .ok (.getfield 139, 3) := by decide +kernel
theorem d_C_bringCopies_38 : decode prog_1_method_51_code 38 = .ok (.if_icmp .ne 35, 3) := by decide +kernel
theorem d_C_bringCopies_41 : decode prog_1_method_51_code 41 = .ok (.aload_n 0, 1) := by decide +kernel
theorem d_C_bringCopies_42 : decode prog_1_method_51_code 42 = .ok (.getfield 45, 3) := by decide +kernel
theorem d_C_bringCopies_45 : decode prog_1_method_51_code 45 = .ok (.getfield 129, 3) := by decide +kernel
theorem d_C_bringCopies_48 : decode prog_1_method_51_code 48 = .ok (.iload_n 1, 1) := by decide +kernel
theorem d_C_bringCopies_49 : decode prog_1_method_51_code 49 = .ok (.iconst 1, 1) := by decide +kernel
theorem d_C_bringCopies_50 : decode prog_1_method_51_code 50 = .ok (.iastore, 1) := by decide +kernel
theorem d_C_bringCopies_51 : decode prog_1_method_51_code 51 = .ok (.aload_n 0, 1) := by decide +kernel
theorem d_C_bringCopies_52 : decode prog_1_method_51_code 52 = .ok (.aload_n 0, 1) := by decide +kernel
theorem d_C_bringCopies_53 : decode prog_1_method_51_code 53 = .ok (.getfield 45, 3) := by decide +kernel
theorem d_C_bringCopies_56 : decode prog_1_method_51_code 56 = .ok (.getfield 198, 3) := by decide +kernel
theorem d_C_bringCopies_59 : decode prog_1_method_51_code 59 = .ok (.iload_n 1, 1) := by decide +kernel
theorem d_C_bringCopies_60 : decode prog_1_method_51_code 60 = .ok (.iaload, 1) := by decide +kernel
theorem d_C_bringCopies_61 : decode prog_1_method_51_code 61 = .ok (.aload_n 0, 1) := by decide +kernel
theorem d_C_bringCopies_62 : decode prog_1_method_51_code 62 = .ok (.getfield 45, 3) := by decide +kernel
theorem d_C_bringCopies_65 : decode prog_1_method_51_code 65 = .ok (.getfield 201, 3) := by decide +kernel
theorem d_C_bringCopies_68 : decode prog_1_method_51_code 68 = .ok (.iload_n 1, 1) := by decide +kernel
theorem d_C_bringCopies_69 : decode prog_1_method_51_code 69 = .ok (.iaload, 1) := by decide +kernel
theorem d_C_bringCopies_70 : decode prog_1_method_51_code 70 = .ok (.invokevirtual 352, 3) := by decide +kernel
theorem d_C_bringCopies_79 : decode prog_1_method_51_code 79 = .ok (.return_, 1) := by decide +kernel
theorem d_H_ruleOf_0 : decode prog_6_method_3_code 0 = .ok (.aload_n 0, 1) := by decide +kernel
theorem d_H_ruleOf_1 : decode prog_6_method_3_code 1 = .ok (.getfield 40, 3) := by decide +kernel
theorem d_H_ruleOf_4 : decode prog_6_method_3_code 4 = .ok (.iload_n 1, 1) := by decide +kernel
theorem d_H_ruleOf_5 : decode prog_6_method_3_code 5 = .ok (.invokestatic 56, 3) := by decide +kernel
theorem d_H_ruleOf_8 : decode prog_6_method_3_code 8 = .ok (.ifCond .eq 12, 3) := by decide +kernel
theorem d_H_ruleOf_20 : decode prog_6_method_3_code 20 = .ok (.getstatic 60, 3) := by decide +kernel
theorem d_H_ruleOf_23 : decode prog_6_method_3_code 23 = .ok (.areturn, 1) := by decide +kernel
theorem d_H_ruleOf_11 : decode prog_6_method_3_code 11 = .ok (.aload_n 0, 1) := by decide +kernel
theorem d_H_ruleOf_12 : decode prog_6_method_3_code 12 = .ok (.getfield 11, 3) := by decide +kernel
theorem d_H_ruleOf_15 : decode prog_6_method_3_code 15 = .ok (.iload_n 1, 1) := by decide +kernel
theorem d_H_ruleOf_16 : decode prog_6_method_3_code 16 = .ok (.aaload, 1) := by decide +kernel
theorem d_H_ruleOf_17 : decode prog_6_method_3_code 17 = .ok (.goto 6, 3) := by decide +kernel
theorem d_C_missing_0 : decode prog_1_method_55_code 0 = .ok (.iload_n 1, 1) := by decide +kernel
theorem d_C_missing_1 : decode prog_1_method_55_code 1 = .ok (.invokestatic 102, 3) := by decide +kernel
theorem d_C_missing_4 : decode prog_1_method_55_code 4 = .ok (.ifCond .eq 14, 3) := by decide +kernel
theorem d_C_missing_18 : decode prog_1_method_55_code 18 = .ok (.iconst 0, 1) := by decide +kernel
theorem d_C_missing_19 : decode prog_1_method_55_code 19 = .ok (.ireturn, 1) := by decide +kernel
theorem d_C_missing_7 : decode prog_1_method_55_code 7 = .ok (.aload_n 0, 1) := by decide +kernel
theorem d_C_missing_8 : decode prog_1_method_55_code 8 = .ok (.getfield 38, 3) := by decide +kernel
theorem d_C_missing_11 : decode prog_1_method_55_code 11 = .ok (.iload_n 2, 1) := by decide +kernel
theorem d_C_missing_12 : decode prog_1_method_55_code 12 = .ok (.invokevirtual 132, 3) := by decide +kernel
theorem d_C_missing_15 : decode prog_1_method_55_code 15 = .ok (.ifCond .ne 5, 3) := by decide +kernel
theorem d_C_missing_20 : decode prog_1_method_55_code 20 = .ok (.aload_n 0, 1) := by decide +kernel
theorem d_C_missing_21 : decode prog_1_method_55_code 21 = .ok (.getfield 38, 3) := by decide +kernel
theorem d_C_missing_24 : decode prog_1_method_55_code 24 = .ok (.getfield 371, 3) := by decide +kernel
theorem d_C_missing_27 : decode prog_1_method_55_code 27 = .ok (.iload_n 1, 1) := by decide +kernel
theorem d_C_missing_28 : decode prog_1_method_55_code 28 = .ok (.iaload, 1) := by decide +kernel
theorem d_C_missing_29 : decode prog_1_method_55_code 29 = .ok (.aload_n 0, 1) := by decide +kernel
theorem d_C_missing_30 : decode prog_1_method_55_code 30 = .ok (.getfield 52, 3) := by decide +kernel
theorem d_C_missing_33 : decode prog_1_method_55_code 33 = .ok (.getfield 345, 3) := by decide +kernel
theorem d_C_missing_36 : decode prog_1_method_55_code 36 = .ok (.iload_n 1, 1) := by decide +kernel
theorem d_C_missing_37 : decode prog_1_method_55_code 37 = .ok (.iaload, 1) := by decide +kernel
theorem d_C_missing_38 : decode prog_1_method_55_code 38 = .ok (.iconst (-1), 1) := by decide +kernel
theorem d_C_missing_39 : decode prog_1_method_55_code 39 = .ok (.ixor, 1) := by decide +kernel
theorem d_C_missing_40 : decode prog_1_method_55_code 40 = .ok (.iand, 1) := by decide +kernel
theorem d_C_missing_41 : decode prog_1_method_55_code 41 = .ok (.istore_n 3, 1) := by decide +kernel
theorem d_C_missing_42 : decode prog_1_method_55_code 42 = .ok (.aload_n 0, 1) := by decide +kernel
theorem d_C_missing_43 : decode prog_1_method_55_code 43 = .ok (.getfield 16, 3) := by decide +kernel
theorem d_C_missing_46 : decode prog_1_method_55_code 46 = .ok (.iload_n 1, 1) := by decide +kernel
theorem d_C_missing_47 : decode prog_1_method_55_code 47 = .ok (.invokevirtual 361, 3) := by decide +kernel
theorem d_C_missing_50 : decode prog_1_method_55_code 50 = .ok (.astore 4, 2) := by decide +kernel
theorem d_C_missing_52 : decode prog_1_method_55_code 52 = .ok (.aload 4, 2) := by decide +kernel
theorem d_C_missing_54 : decode prog_1_method_55_code 54 = .ok (.getstatic 374, 3) := by decide +kernel
theorem d_C_missing_57 : decode prog_1_method_55_code 57 = .ok (.if_acmp .ne 30, 3) := by decide +kernel
theorem d_C_missing_87 : decode prog_1_method_55_code 87 = .ok (.aload 4, 2) := by decide +kernel
theorem d_C_missing_89 : decode prog_1_method_55_code 89 = .ok (.getstatic 377, 3) := by decide +kernel
theorem d_C_missing_92 : decode prog_1_method_55_code 92 = .ok (.if_acmp .ne 14, 3) := by decide +kernel
theorem d_C_missing_106 : decode prog_1_method_55_code 106 = .ok (.aload 4, 2) := by decide +kernel
theorem d_C_missing_108 : decode prog_1_method_55_code 108 = .ok (.getstatic 383, 3) := by decide +kernel
theorem d_C_missing_111 : decode prog_1_method_55_code 111 = .ok (.if_acmp .ne 17, 3) := by decide +kernel
theorem d_C_missing_128 : decode prog_1_method_55_code 128 = .ok (.iconst 0, 1) := by decide +kernel
theorem d_C_missing_129 : decode prog_1_method_55_code 129 = .ok (.ireturn, 1) := by decide +kernel
theorem d_C_missing_114 : decode prog_1_method_55_code 114 = .ok (.iload_n 3, 1) := by decide +kernel
theorem d_C_missing_115 : decode prog_1_method_55_code 115 = .ok (.aload_n 0, 1) := by decide +kernel
theorem d_C_missing_116 : decode prog_1_method_55_code 116 = .ok (.getfield 38, 3) := by decide +kernel
theorem d_C_missing_119 : decode prog_1_method_55_code 119 = .ok (.getfield 211, 3) := by decide +kernel
theorem d_C_missing_122 : decode prog_1_method_55_code 122 = .ok (.iload_n 2, 1) := by decide +kernel
theorem d_C_missing_123 : decode prog_1_method_55_code 123 = .ok (.iaload, 1) := by decide +kernel
theorem d_C_missing_124 : decode prog_1_method_55_code 124 = .ok (.iand, 1) := by decide +kernel
theorem d_C_missing_125 : decode prog_1_method_55_code 125 = .ok (.goto 4, 3) := by decide +kernel
theorem d_C_missing_95 : decode prog_1_method_55_code 95 = .ok (.iload_n 3, 1) := by decide +kernel
theorem d_C_missing_96 : decode prog_1_method_55_code 96 = .ok (.aload_n 0, 1) := by decide +kernel
theorem d_C_missing_97 : decode prog_1_method_55_code 97 = .ok (.getfield 38, 3) := by decide +kernel
theorem d_C_missing_100 : decode prog_1_method_55_code 100 = .ok (.iload_n 2, 1) := by decide +kernel
theorem d_C_missing_101 : decode prog_1_method_55_code 101 = .ok (.invokevirtual 380, 3) := by decide +kernel
theorem d_C_missing_104 : decode prog_1_method_55_code 104 = .ok (.iand, 1) := by decide +kernel
theorem d_C_missing_105 : decode prog_1_method_55_code 105 = .ok (.ireturn, 1) := by decide +kernel
theorem d_C_missing_60 : decode prog_1_method_55_code 60 = .ok (.iload_n 3, 1) := by decide +kernel
theorem d_C_missing_61 : decode prog_1_method_55_code 61 = .ok (.aload_n 0, 1) := by decide +kernel
theorem d_C_missing_62 : decode prog_1_method_55_code 62 = .ok (.getfield 38, 3) := by decide +kernel
theorem d_C_missing_65 : decode prog_1_method_55_code 65 = .ok (.getfield 342, 3) := by decide +kernel
theorem d_C_missing_68 : decode prog_1_method_55_code 68 = .ok (.aload_n 0, 1) := by decide +kernel
theorem d_C_missing_69 : decode prog_1_method_55_code 69 = .ok (.getfield 38, 3) := by decide +kernel
theorem d_C_missing_72 : decode prog_1_method_55_code 72 = .ok (.getfield 172, 3) := by decide +kernel
theorem d_C_missing_75 : decode prog_1_method_55_code 75 = .ok (.iload_n 2, 1) := by decide +kernel
theorem d_C_missing_76 : decode prog_1_method_55_code 76 = .ok (.iaload, 1) := by decide +kernel
theorem d_C_missing_77 : decode prog_1_method_55_code 77 = .ok (.iaload, 1) := by decide +kernel
theorem d_C_missing_78 : decode prog_1_method_55_code 78 = .ok (.iand, 1) := by decide +kernel
theorem d_C_missing_79 : decode prog_1_method_55_code 79 = .ok (.iload_n 2, 1) := by decide +kernel
theorem d_C_missing_80 : decode prog_1_method_55_code 80 = .ok (.invokestatic 262, 3) := by decide +kernel
theorem d_C_missing_83 : decode prog_1_method_55_code 83 = .ok (.iconst 1, 1) := by decide +kernel
theorem d_C_missing_84 : decode prog_1_method_55_code 84 = .ok (.isub, 1) := by decide +kernel
theorem d_C_missing_85 : decode prog_1_method_55_code 85 = .ok (.iand, 1) := by decide +kernel
theorem d_C_missing_86 : decode prog_1_method_55_code 86 = .ok (.ireturn, 1) := by decide +kernel
theorem d_D_letterAt_0 : decode prog_4_method_3_code 0 = .ok (.iload_n 1, 1) := by decide +kernel
theorem d_D_letterAt_1 : decode prog_4_method_3_code 1 = .ok (.invokestatic 29, 3) := by decide +kernel
theorem d_D_letterAt_4 : decode prog_4_method_3_code 4 = .ok (.ifCond .eq 24, 3) := by decide +kernel
theorem d_D_letterAt_28 : decode prog_4_method_3_code 28 = .ok (.iconst (-1), 1) := by decide +kernel
theorem d_D_letterAt_29 : decode prog_4_method_3_code 29 = .ok (.ireturn, 1) := by decide +kernel
theorem d_D_letterAt_7 : decode prog_4_method_3_code 7 = .ok (.iload_n 2, 1) := by decide +kernel
theorem d_D_letterAt_8 : decode prog_4_method_3_code 8 = .ok (.ifCond .lt 20, 3) := by decide +kernel
theorem d_D_letterAt_11 : decode prog_4_method_3_code 11 = .ok (.iload_n 2, 1) := by decide +kernel
theorem d_D_letterAt_12 : decode prog_4_method_3_code 12 = .ok (.bipush 30, 2) := by decide +kernel
theorem d_D_letterAt_14 : decode prog_4_method_3_code 14 = .ok (.if_icmp .ge 14, 3) := by decide +kernel
theorem d_D_letterAt_17 : decode prog_4_method_3_code 17 = .ok (.aload_n 0, 1) := by decide +kernel
theorem d_D_letterAt_18 : decode prog_4_method_3_code 18 = .ok (.getfield 11, 3) := by decide +kernel
theorem d_D_letterAt_21 : decode prog_4_method_3_code 21 = .ok (.iload_n 1, 1) := by decide +kernel
theorem d_D_letterAt_22 : decode prog_4_method_3_code 22 = .ok (.aaload, 1) := by decide +kernel
theorem d_D_letterAt_23 : decode prog_4_method_3_code 23 = .ok (.iload_n 2, 1) := by decide +kernel
theorem d_D_letterAt_24 : decode prog_4_method_3_code 24 = .ok (.iaload, 1) := by decide +kernel
theorem d_D_letterAt_25 : decode prog_4_method_3_code 25 = .ok (.goto 4, 3) := by decide +kernel
theorem d_C_firstThatRuleLets_0 : decode prog_1_method_54_code 0 = .ok (.aload_n 0, 1) := by decide +kernel
theorem d_C_firstThatRuleLets_1 : decode prog_1_method_54_code 1 = .ok (.getfield 16, 3) := by decide +kernel
theorem d_C_firstThatRuleLets_4 : decode prog_1_method_54_code 4 = .ok (.iload_n 1, 1) := by decide +kernel
theorem d_C_firstThatRuleLets_5 : decode prog_1_method_54_code 5 = .ok (.invokevirtual 361, 3) := by decide +kernel
theorem d_C_firstThatRuleLets_8 : decode prog_1_method_54_code 8 = .ok (.getstatic 365, 3) := by decide +kernel
theorem d_C_firstThatRuleLets_11 : decode prog_1_method_54_code 11 = .ok (.if_acmp .ne 5, 3) := by decide +kernel
theorem d_C_firstThatRuleLets_16 : decode prog_1_method_54_code 16 = .ok (.iconst 0, 1) := by decide +kernel
theorem d_C_firstThatRuleLets_17 : decode prog_1_method_54_code 17 = .ok (.istore_n 2, 1) := by decide +kernel
theorem d_C_firstThatRuleLets_18 : decode prog_1_method_54_code 18 = .ok (.iload_n 2, 1) := by decide +kernel
theorem d_C_firstThatRuleLets_19 : decode prog_1_method_54_code 19 = .ok (.aload_n 0, 1) := by decide +kernel
theorem d_C_firstThatRuleLets_20 : decode prog_1_method_54_code 20 = .ok (.getfield 52, 3) := by decide +kernel
theorem d_C_firstThatRuleLets_23 : decode prog_1_method_54_code 23 = .ok (.getfield 162, 3) := by decide +kernel
theorem d_C_firstThatRuleLets_26 : decode prog_1_method_54_code 26 = .ok (.iload_n 1, 1) := by decide +kernel
theorem d_C_firstThatRuleLets_27 : decode prog_1_method_54_code 27 = .ok (.iaload, 1) := by decide +kernel
theorem d_C_firstThatRuleLets_28 : decode prog_1_method_54_code 28 = .ok (.if_icmp .ge 30, 3) := by decide +kernel
theorem d_C_firstThatRuleLets_31 : decode prog_1_method_54_code 31 = .ok (.aload_n 0, 1) := by decide +kernel
theorem d_C_firstThatRuleLets_32 : decode prog_1_method_54_code 32 = .ok (.getfield 52, 3) := by decide +kernel
theorem d_C_firstThatRuleLets_35 : decode prog_1_method_54_code 35 = .ok (.iload_n 1, 1) := by decide +kernel
theorem d_C_firstThatRuleLets_36 : decode prog_1_method_54_code 36 = .ok (.iload_n 2, 1) := by decide +kernel
theorem d_C_firstThatRuleLets_37 : decode prog_1_method_54_code 37 = .ok (.invokevirtual 205, 3) := by decide +kernel
theorem d_C_firstThatRuleLets_40 : decode prog_1_method_54_code 40 = .ok (.istore_n 3, 1) := by decide +kernel
theorem d_C_firstThatRuleLets_41 : decode prog_1_method_54_code 41 = .ok (.aload_n 0, 1) := by decide +kernel
theorem d_C_firstThatRuleLets_42 : decode prog_1_method_54_code 42 = .ok (.iload_n 1, 1) := by decide +kernel
theorem d_C_firstThatRuleLets_43 : decode prog_1_method_54_code 43 = .ok (.iload_n 3, 1) := by decide +kernel
theorem d_C_firstThatRuleLets_44 : decode prog_1_method_54_code 44 = .ok (.invokevirtual 250, 3) := by decide +kernel
theorem d_C_firstThatRuleLets_47 : decode prog_1_method_54_code 47 = .ok (.ifCond .ne 5, 3) := by decide +kernel
theorem d_C_firstThatRuleLets_52 : decode prog_1_method_54_code 52 = .ok (.iinc 2 1, 3) := by decide +kernel
theorem d_C_firstThatRuleLets_55 : decode prog_1_method_54_code 55 = .ok (.goto (-37), 3) := by decide +kernel
theorem d_C_firstThatRuleLets_50 : decode prog_1_method_54_code 50 = .ok (.iload_n 3, 1) := by decide +kernel
theorem d_C_firstThatRuleLets_51 : decode prog_1_method_54_code 51 = .ok (.ireturn, 1) := by decide +kernel
theorem d_C_firstThatRuleLets_58 : decode prog_1_method_54_code 58 = .ok (.iconst (-1), 1) := by decide +kernel
theorem d_C_firstThatRuleLets_59 : decode prog_1_method_54_code 59 = .ok (.ireturn, 1) := by decide +kernel
theorem d_C_firstThatRuleLets_14 : decode prog_1_method_54_code 14 = .ok (.iconst (-1), 1) := by decide +kernel
theorem d_C_firstThatRuleLets_15 : decode prog_1_method_54_code 15 = .ok (.ireturn, 1) := by decide +kernel
theorem d_C_gatherFacts_0 : decode prog_1_method_57_code 0 = .ok (.aload_n 0, 1) := by decide +kernel
theorem d_C_gatherFacts_1 : decode prog_1_method_57_code 1 = .ok (.getfield 32, 3) := by decide +kernel
theorem d_C_gatherFacts_4 : decode prog_1_method_57_code 4 = .ok (.iconst 0, 1) := by decide +kernel
theorem d_C_gatherFacts_5 : decode prog_1_method_57_code 5 = .ok (.aload_n 0, 1) := by decide +kernel
theorem d_C_gatherFacts_6 : decode prog_1_method_57_code 6 = .ok (.getfield 38, 3) := by decide +kernel
theorem d_C_gatherFacts_9 : decode prog_1_method_57_code 9 = .ok (.getfield 172, 3) := by decide +kernel
theorem d_C_gatherFacts_12 : decode prog_1_method_57_code 12 = .ok (.iload_n 2, 1) := by decide +kernel
theorem d_C_gatherFacts_13 : decode prog_1_method_57_code 13 = .ok (.iaload, 1) := by decide +kernel
theorem d_C_gatherFacts_14 : decode prog_1_method_57_code 14 = .ok (.iastore, 1) := by decide +kernel
theorem d_C_gatherFacts_15 : decode prog_1_method_57_code 15 = .ok (.aload_n 0, 1) := by decide +kernel
theorem d_C_gatherFacts_16 : decode prog_1_method_57_code 16 = .ok (.getfield 32, 3) := by decide +kernel
theorem d_C_gatherFacts_19 : decode prog_1_method_57_code 19 = .ok (.iconst 1, 1) := by decide +kernel
theorem d_C_gatherFacts_20 : decode prog_1_method_57_code 20 = .ok (.aload_n 0, 1) := by decide +kernel
theorem d_C_gatherFacts_21 : decode prog_1_method_57_code 21 = .ok (.getfield 38, 3) := by decide +kernel
theorem d_C_gatherFacts_24 : decode prog_1_method_57_code 24 = .ok (.getfield 178, 3) := by decide +kernel
theorem d_C_gatherFacts_27 : decode prog_1_method_57_code 27 = .ok (.iload_n 2, 1) := by decide +kernel
theorem d_C_gatherFacts_28 : decode prog_1_method_57_code 28 = .ok (.iaload, 1) := by decide +kernel
theorem d_C_gatherFacts_29 : decode prog_1_method_57_code 29 = .ok (.iastore, 1) := by decide +kernel
theorem d_C_gatherFacts_30 : decode prog_1_method_57_code 30 = .ok (.aload_n 0, 1) := by decide +kernel
theorem d_C_gatherFacts_31 : decode prog_1_method_57_code 31 = .ok (.getfield 32, 3) := by decide +kernel
theorem d_C_gatherFacts_34 : decode prog_1_method_57_code 34 = .ok (.iconst 2, 1) := by decide +kernel
theorem d_C_gatherFacts_35 : decode prog_1_method_57_code 35 = .ok (.aload_n 0, 1) := by decide +kernel
theorem d_C_gatherFacts_36 : decode prog_1_method_57_code 36 = .ok (.getfield 139, 3) := by decide +kernel
theorem d_C_gatherFacts_39 : decode prog_1_method_57_code 39 = .ok (.aload_n 0, 1) := by decide +kernel
theorem d_C_gatherFacts_40 : decode prog_1_method_57_code 40 = .ok (.getfield 38, 3) := by decide +kernel
theorem d_C_gatherFacts_43 : decode prog_1_method_57_code 43 = .ok (.getfield 175, 3) := by decide +kernel
theorem d_C_gatherFacts_46 : decode prog_1_method_57_code 46 = .ok (.iload_n 2, 1) := by decide +kernel
theorem d_C_gatherFacts_47 : decode prog_1_method_57_code 47 = .ok (.iaload, 1) := by decide +kernel
theorem d_C_gatherFacts_48 : decode prog_1_method_57_code 48 = .ok (.isub, 1) := by decide +kernel
theorem d_C_gatherFacts_49 : decode prog_1_method_57_code 49 = .ok (.iastore, 1) := by decide +kernel
theorem d_C_gatherFacts_50 : decode prog_1_method_57_code 50 = .ok (.aload_n 0, 1) := by decide +kernel
theorem d_C_gatherFacts_51 : decode prog_1_method_57_code 51 = .ok (.getfield 32, 3) := by decide +kernel
theorem d_C_gatherFacts_54 : decode prog_1_method_57_code 54 = .ok (.iconst 3, 1) := by decide +kernel
theorem d_C_gatherFacts_55 : decode prog_1_method_57_code 55 = .ok (.aload_n 0, 1) := by decide +kernel
theorem d_C_gatherFacts_56 : decode prog_1_method_57_code 56 = .ok (.iload_n 1, 1) := by decide +kernel
theorem d_C_gatherFacts_57 : decode prog_1_method_57_code 57 = .ok (.invokevirtual 135, 3) := by decide +kernel
theorem d_C_gatherFacts_60 : decode prog_1_method_57_code 60 = .ok (.invokestatic 282, 3) := by decide +kernel
theorem d_C_gatherFacts_63 : decode prog_1_method_57_code 63 = .ok (.iastore, 1) := by decide +kernel
theorem d_C_gatherFacts_64 : decode prog_1_method_57_code 64 = .ok (.aload_n 0, 1) := by decide +kernel
theorem d_C_gatherFacts_65 : decode prog_1_method_57_code 65 = .ok (.getfield 32, 3) := by decide +kernel
theorem d_C_gatherFacts_68 : decode prog_1_method_57_code 68 = .ok (.iconst 4, 1) := by decide +kernel
theorem d_C_gatherFacts_69 : decode prog_1_method_57_code 69 = .ok (.aload_n 0, 1) := by decide +kernel
theorem d_C_gatherFacts_70 : decode prog_1_method_57_code 70 = .ok (.getfield 38, 3) := by decide +kernel
theorem d_C_gatherFacts_73 : decode prog_1_method_57_code 73 = .ok (.getfield 218, 3) := by decide +kernel
theorem d_C_gatherFacts_76 : decode prog_1_method_57_code 76 = .ok (.iload_n 2, 1) := by decide +kernel
theorem d_C_gatherFacts_77 : decode prog_1_method_57_code 77 = .ok (.iaload, 1) := by decide +kernel
theorem d_C_gatherFacts_78 : decode prog_1_method_57_code 78 = .ok (.iastore, 1) := by decide +kernel
theorem d_C_gatherFacts_79 : decode prog_1_method_57_code 79 = .ok (.aload_n 0, 1) := by decide +kernel
theorem d_C_gatherFacts_80 : decode prog_1_method_57_code 80 = .ok (.getfield 32, 3) := by decide +kernel
theorem d_C_gatherFacts_83 : decode prog_1_method_57_code 83 = .ok (.iconst 5, 1) := by decide +kernel
theorem d_C_gatherFacts_84 : decode prog_1_method_57_code 84 = .ok (.aload_n 0, 1) := by decide +kernel
theorem d_C_gatherFacts_85 : decode prog_1_method_57_code 85 = .ok (.getfield 38, 3) := by decide +kernel
theorem d_C_gatherFacts_88 : decode prog_1_method_57_code 88 = .ok (.iload_n 2, 1) := by decide +kernel
theorem d_C_gatherFacts_89 : decode prog_1_method_57_code 89 = .ok (.invokevirtual 380, 3) := by decide +kernel
theorem d_C_gatherFacts_92 : decode prog_1_method_57_code 92 = .ok (.invokestatic 282, 3) := by decide +kernel
theorem d_C_gatherFacts_95 : decode prog_1_method_57_code 95 = .ok (.iastore, 1) := by decide +kernel
theorem d_C_gatherFacts_96 : decode prog_1_method_57_code 96 = .ok (.aload_n 0, 1) := by decide +kernel
theorem d_C_gatherFacts_97 : decode prog_1_method_57_code 97 = .ok (.getfield 32, 3) := by decide +kernel
theorem d_C_gatherFacts_100 : decode prog_1_method_57_code 100 = .ok (.bipush 6, 2) := by decide +kernel
theorem d_C_gatherFacts_102 : decode prog_1_method_57_code 102 = .ok (.aload_n 0, 1) := by decide +kernel
theorem d_C_gatherFacts_103 : decode prog_1_method_57_code 103 = .ok (.getfield 38, 3) := by decide +kernel
theorem d_C_gatherFacts_106 : decode prog_1_method_57_code 106 = .ok (.getfield 342, 3) := by decide +kernel
theorem d_C_gatherFacts_109 : decode prog_1_method_57_code 109 = .ok (.iload_n 1, 1) := by decide +kernel
theorem d_C_gatherFacts_110 : decode prog_1_method_57_code 110 = .ok (.iaload, 1) := by decide +kernel
theorem d_C_gatherFacts_111 : decode prog_1_method_57_code 111 = .ok (.invokestatic 282, 3) := by decide +kernel
theorem d_C_gatherFacts_114 : decode prog_1_method_57_code 114 = .ok (.iastore, 1) := by decide +kernel
theorem d_C_gatherFacts_115 : decode prog_1_method_57_code 115 = .ok (.return_, 1) := by decide +kernel
theorem d_D_take_0 : decode prog_4_method_5_code 0 = .ok (.aload_n 0, 1) := by decide +kernel
theorem d_D_take_1 : decode prog_4_method_5_code 1 = .ok (.iload_n 1, 1) := by decide +kernel
theorem d_D_take_2 : decode prog_4_method_5_code 2 = .ok (.iload_n 2, 1) := by decide +kernel
theorem d_D_take_3 : decode prog_4_method_5_code 3 = .ok (.invokevirtual 41, 3) := by decide +kernel
theorem d_D_take_6 : decode prog_4_method_5_code 6 = .ok (.ifCond .ne 4, 3) := by decide +kernel
theorem d_D_take_10 : decode prog_4_method_5_code 10 = .ok (.iconst 0, 1) := by decide +kernel
theorem d_D_take_11 : decode prog_4_method_5_code 11 = .ok (.istore 4, 2) := by decide +kernel
theorem d_D_take_13 : decode prog_4_method_5_code 13 = .ok (.iconst 0, 1) := by decide +kernel
theorem d_D_take_14 : decode prog_4_method_5_code 14 = .ok (.istore 5, 2) := by decide +kernel
theorem d_D_take_16 : decode prog_4_method_5_code 16 = .ok (.iload 5, 2) := by decide +kernel
theorem d_D_take_18 : decode prog_4_method_5_code 18 = .ok (.aload_n 0, 1) := by decide +kernel
theorem d_D_take_19 : decode prog_4_method_5_code 19 = .ok (.getfield 16, 3) := by decide +kernel
theorem d_D_take_22 : decode prog_4_method_5_code 22 = .ok (.iload_n 1, 1) := by decide +kernel
theorem d_D_take_23 : decode prog_4_method_5_code 23 = .ok (.iaload, 1) := by decide +kernel
theorem d_D_take_24 : decode prog_4_method_5_code 24 = .ok (.if_icmp .ge 43, 3) := by decide +kernel
theorem d_D_take_27 : decode prog_4_method_5_code 27 = .ok (.aload_n 0, 1) := by decide +kernel
theorem d_D_take_28 : decode prog_4_method_5_code 28 = .ok (.getfield 11, 3) := by decide +kernel
theorem d_D_take_31 : decode prog_4_method_5_code 31 = .ok (.iload_n 1, 1) := by decide +kernel
theorem d_D_take_32 : decode prog_4_method_5_code 32 = .ok (.aaload, 1) := by decide +kernel
theorem d_D_take_33 : decode prog_4_method_5_code 33 = .ok (.iload 5, 2) := by decide +kernel
theorem d_D_take_35 : decode prog_4_method_5_code 35 = .ok (.iaload, 1) := by decide +kernel
theorem d_D_take_36 : decode prog_4_method_5_code 36 = .ok (.iload_n 2, 1) := by decide +kernel
theorem d_D_take_37 : decode prog_4_method_5_code 37 = .ok (.if_icmp .eq 24, 3) := by decide +kernel
theorem d_D_take_61 : decode prog_4_method_5_code 61 = .ok (.iinc 5 1, 3) := by decide +kernel
theorem d_D_take_64 : decode prog_4_method_5_code 64 = .ok (.goto (-48), 3) := by decide +kernel
theorem d_D_take_40 : decode prog_4_method_5_code 40 = .ok (.aload_n 0, 1) := by decide +kernel
theorem d_D_take_41 : decode prog_4_method_5_code 41 = .ok (.getfield 11, 3) := by decide +kernel
theorem d_D_take_44 : decode prog_4_method_5_code 44 = .ok (.iload_n 1, 1) := by decide +kernel
theorem d_D_take_45 : decode prog_4_method_5_code 45 = .ok (.aaload, 1) := by decide +kernel
theorem d_D_take_46 : decode prog_4_method_5_code 46 = .ok (.iload 4, 2) := by decide +kernel
theorem d_D_take_48 : decode prog_4_method_5_code 48 = .ok (.aload_n 0, 1) := by decide +kernel
theorem d_D_take_49 : decode prog_4_method_5_code 49 = .ok (.getfield 11, 3) := by decide +kernel
theorem d_D_take_52 : decode prog_4_method_5_code 52 = .ok (.iload_n 1, 1) := by decide +kernel
theorem d_D_take_53 : decode prog_4_method_5_code 53 = .ok (.aaload, 1) := by decide +kernel
theorem d_D_take_54 : decode prog_4_method_5_code 54 = .ok (.iload 5, 2) := by decide +kernel
theorem d_D_take_56 : decode prog_4_method_5_code 56 = .ok (.iaload, 1) := by decide +kernel
theorem d_D_take_57 : decode prog_4_method_5_code 57 = .ok (.iastore, 1) := by decide +kernel
theorem d_D_take_58 : decode prog_4_method_5_code 58 = .ok (.iinc 4 1, 3) := by decide +kernel
theorem d_D_take_67 : decode prog_4_method_5_code 67 = .ok (.aload_n 0, 1) := by decide +kernel
theorem d_D_take_68 : decode prog_4_method_5_code 68 = .ok (.getfield 16, 3) := by decide +kernel
theorem d_D_take_71 : decode prog_4_method_5_code 71 = .ok (.iload_n 1, 1) := by decide +kernel
theorem d_D_take_72 : decode prog_4_method_5_code 72 = .ok (.iload 4, 2) := by decide +kernel
theorem d_D_take_74 : decode prog_4_method_5_code 74 = .ok (.iastore, 1) := by decide +kernel
theorem d_D_take_75 : decode prog_4_method_5_code 75 = .ok (.aload_n 0, 1) := by decide +kernel
theorem d_D_take_76 : decode prog_4_method_5_code 76 = .ok (.getfield 20, 3) := by decide +kernel
theorem d_D_take_79 : decode prog_4_method_5_code 79 = .ok (.iload_n 1, 1) := by decide +kernel
theorem d_D_take_80 : decode prog_4_method_5_code 80 = .ok (.dup2, 1) := by decide +kernel
theorem d_D_take_81 : decode prog_4_method_5_code 81 = .ok (.iaload, 1) := by decide +kernel
theorem d_D_take_82 : decode prog_4_method_5_code 82 = .ok (.iload_n 2, 1) := by decide +kernel
theorem d_D_take_83 : decode prog_4_method_5_code 83 = .ok (.invokestatic 37, 3) := by decide +kernel
theorem d_D_take_86 : decode prog_4_method_5_code 86 = .ok (.iconst (-1), 1) := by decide +kernel
theorem d_D_take_87 : decode prog_4_method_5_code 87 = .ok (.ixor, 1) := by decide +kernel
theorem d_D_take_88 : decode prog_4_method_5_code 88 = .ok (.iand, 1) := by decide +kernel
theorem d_D_take_89 : decode prog_4_method_5_code 89 = .ok (.iastore, 1) := by decide +kernel
theorem d_D_take_90 : decode prog_4_method_5_code 90 = .ok (.aload_n 0, 1) := by decide +kernel
theorem d_D_take_91 : decode prog_4_method_5_code 91 = .ok (.getfield 23, 3) := by decide +kernel
theorem d_D_take_94 : decode prog_4_method_5_code 94 = .ok (.iload_n 1, 1) := by decide +kernel
theorem d_D_take_95 : decode prog_4_method_5_code 95 = .ok (.dup2, 1) := by decide +kernel
theorem d_D_take_96 : decode prog_4_method_5_code 96 = .ok (.iaload, 1) := by decide +kernel
theorem d_D_take_97 : decode prog_4_method_5_code 97 = .ok (.iload_n 2, 1) := by decide +kernel
theorem d_D_take_98 : decode prog_4_method_5_code 98 = .ok (.invokestatic 37, 3) := by decide +kernel
theorem d_D_take_101 : decode prog_4_method_5_code 101 = .ok (.ior, 1) := by decide +kernel
theorem d_D_take_102 : decode prog_4_method_5_code 102 = .ok (.iastore, 1) := by decide +kernel
theorem d_D_take_103 : decode prog_4_method_5_code 103 = .ok (.aload_n 0, 1) := by decide +kernel
theorem d_D_take_104 : decode prog_4_method_5_code 104 = .ok (.getfield 26, 3) := by decide +kernel
theorem d_D_take_107 : decode prog_4_method_5_code 107 = .ok (.iload_n 1, 1) := by decide +kernel
theorem d_D_take_108 : decode prog_4_method_5_code 108 = .ok (.aaload, 1) := by decide +kernel
theorem d_D_take_109 : decode prog_4_method_5_code 109 = .ok (.iload_n 2, 1) := by decide +kernel
theorem d_D_take_110 : decode prog_4_method_5_code 110 = .ok (.iload_n 3, 1) := by decide +kernel
theorem d_D_take_111 : decode prog_4_method_5_code 111 = .ok (.iastore, 1) := by decide +kernel
theorem d_D_take_112 : decode prog_4_method_5_code 112 = .ok (.return_, 1) := by decide +kernel
theorem d_D_take_9 : decode prog_4_method_5_code 9 = .ok (.return_, 1) := by decide +kernel
theorem d_C_truth_0 : decode prog_1_method_46_code 0 = .ok (.iload_n 0, 1) := by decide +kernel
theorem d_C_truth_1 : decode prog_1_method_46_code 1 = .ok (.ifCond .eq 7, 3) := by decide +kernel
theorem d_C_truth_8 : decode prog_1_method_46_code 8 = .ok (.iconst 0, 1) := by decide +kernel
theorem d_C_truth_9 : decode prog_1_method_46_code 9 = .ok (.ireturn, 1) := by decide +kernel
theorem d_C_truth_4 : decode prog_1_method_46_code 4 = .ok (.iconst 1, 1) := by decide +kernel
theorem d_C_truth_5 : decode prog_1_method_46_code 5 = .ok (.goto 4, 3) := by decide +kernel
theorem d_H_joined_0 : decode prog_6_method_9_code 0 = .ok (.getstatic 88, 3) := by decide +kernel
theorem d_H_joined_3 : decode prog_6_method_9_code 3 = .ok (.aload_n 0, 1) := by decide +kernel
theorem d_H_joined_4 : decode prog_6_method_9_code 4 = .ok (.invokevirtual 93, 3) := by decide +kernel
theorem d_H_joined_7 : decode prog_6_method_9_code 7 = .ok (.iaload, 1) := by decide +kernel
theorem d_H_joined_8 : decode prog_6_method_9_code 8 = .ok (.tableswitch 174 1 9 #[52, 69, 86, 100, 114, 128, 142, 156, 170], 52) := by decide +kernel
theorem d_H_joined_182 : decode prog_6_method_9_code 182 = .ok (.iload_n 1, 1) := by decide +kernel
theorem d_H_joined_183 : decode prog_6_method_9_code 183 = .ok (.iload_n 2, 1) := by decide +kernel
theorem d_H_joined_184 : decode prog_6_method_9_code 184 = .ok (.isub, 1) := by decide +kernel
theorem d_H_joined_185 : decode prog_6_method_9_code 185 = .ok (.ireturn, 1) := by decide +kernel
theorem d_H_joined_178 : decode prog_6_method_9_code 178 = .ok (.iload_n 1, 1) := by decide +kernel
theorem d_H_joined_179 : decode prog_6_method_9_code 179 = .ok (.iload_n 2, 1) := by decide +kernel
theorem d_H_joined_180 : decode prog_6_method_9_code 180 = .ok (.iadd, 1) := by decide +kernel
theorem d_H_joined_181 : decode prog_6_method_9_code 181 = .ok (.ireturn, 1) := by decide +kernel
theorem d_H_joined_164 : decode prog_6_method_9_code 164 = .ok (.iload_n 1, 1) := by decide +kernel
theorem d_H_joined_165 : decode prog_6_method_9_code 165 = .ok (.iload_n 2, 1) := by decide +kernel
theorem d_H_joined_166 : decode prog_6_method_9_code 166 = .ok (.if_icmp .le 7, 3) := by decide +kernel
theorem d_H_joined_173 : decode prog_6_method_9_code 173 = .ok (.iconst 0, 1) := by decide +kernel
theorem d_H_joined_174 : decode prog_6_method_9_code 174 = .ok (.invokestatic 80, 3) := by decide +kernel
theorem d_H_joined_177 : decode prog_6_method_9_code 177 = .ok (.ireturn, 1) := by decide +kernel
theorem d_H_joined_169 : decode prog_6_method_9_code 169 = .ok (.iconst 1, 1) := by decide +kernel
theorem d_H_joined_170 : decode prog_6_method_9_code 170 = .ok (.goto 4, 3) := by decide +kernel
theorem d_H_joined_150 : decode prog_6_method_9_code 150 = .ok (.iload_n 1, 1) := by decide +kernel
theorem d_H_joined_151 : decode prog_6_method_9_code 151 = .ok (.iload_n 2, 1) := by decide +kernel
theorem d_H_joined_152 : decode prog_6_method_9_code 152 = .ok (.if_icmp .lt 7, 3) := by decide +kernel
theorem d_H_joined_159 : decode prog_6_method_9_code 159 = .ok (.iconst 0, 1) := by decide +kernel
theorem d_H_joined_160 : decode prog_6_method_9_code 160 = .ok (.invokestatic 80, 3) := by decide +kernel
theorem d_H_joined_163 : decode prog_6_method_9_code 163 = .ok (.ireturn, 1) := by decide +kernel
theorem d_H_joined_155 : decode prog_6_method_9_code 155 = .ok (.iconst 1, 1) := by decide +kernel
theorem d_H_joined_156 : decode prog_6_method_9_code 156 = .ok (.goto 4, 3) := by decide +kernel
theorem d_H_joined_136 : decode prog_6_method_9_code 136 = .ok (.iload_n 1, 1) := by decide +kernel
theorem d_H_joined_137 : decode prog_6_method_9_code 137 = .ok (.iload_n 2, 1) := by decide +kernel
theorem d_H_joined_138 : decode prog_6_method_9_code 138 = .ok (.if_icmp .eq 7, 3) := by decide +kernel
theorem d_H_joined_145 : decode prog_6_method_9_code 145 = .ok (.iconst 0, 1) := by decide +kernel
theorem d_H_joined_146 : decode prog_6_method_9_code 146 = .ok (.invokestatic 80, 3) := by decide +kernel
theorem d_H_joined_149 : decode prog_6_method_9_code 149 = .ok (.ireturn, 1) := by decide +kernel
theorem d_H_joined_141 : decode prog_6_method_9_code 141 = .ok (.iconst 1, 1) := by decide +kernel
theorem d_H_joined_142 : decode prog_6_method_9_code 142 = .ok (.goto 4, 3) := by decide +kernel
theorem d_H_joined_122 : decode prog_6_method_9_code 122 = .ok (.iload_n 1, 1) := by decide +kernel
theorem d_H_joined_123 : decode prog_6_method_9_code 123 = .ok (.iload_n 2, 1) := by decide +kernel
theorem d_H_joined_124 : decode prog_6_method_9_code 124 = .ok (.if_icmp .ne 7, 3) := by decide +kernel
theorem d_H_joined_131 : decode prog_6_method_9_code 131 = .ok (.iconst 0, 1) := by decide +kernel
theorem d_H_joined_132 : decode prog_6_method_9_code 132 = .ok (.invokestatic 80, 3) := by decide +kernel
theorem d_H_joined_135 : decode prog_6_method_9_code 135 = .ok (.ireturn, 1) := by decide +kernel
theorem d_H_joined_127 : decode prog_6_method_9_code 127 = .ok (.iconst 1, 1) := by decide +kernel
theorem d_H_joined_128 : decode prog_6_method_9_code 128 = .ok (.goto 4, 3) := by decide +kernel
theorem d_H_joined_108 : decode prog_6_method_9_code 108 = .ok (.iload_n 1, 1) := by decide +kernel
theorem d_H_joined_109 : decode prog_6_method_9_code 109 = .ok (.iload_n 2, 1) := by decide +kernel
theorem d_H_joined_110 : decode prog_6_method_9_code 110 = .ok (.if_icmp .gt 7, 3) := by decide +kernel
theorem d_H_joined_117 : decode prog_6_method_9_code 117 = .ok (.iconst 0, 1) := by decide +kernel
theorem d_H_joined_118 : decode prog_6_method_9_code 118 = .ok (.invokestatic 80, 3) := by decide +kernel
theorem d_H_joined_121 : decode prog_6_method_9_code 121 = .ok (.ireturn, 1) := by decide +kernel
theorem d_H_joined_113 : decode prog_6_method_9_code 113 = .ok (.iconst 1, 1) := by decide +kernel
theorem d_H_joined_114 : decode prog_6_method_9_code 114 = .ok (.goto 4, 3) := by decide +kernel
theorem d_H_joined_94 : decode prog_6_method_9_code 94 = .ok (.iload_n 1, 1) := by decide +kernel
theorem d_H_joined_95 : decode prog_6_method_9_code 95 = .ok (.iload_n 2, 1) := by decide +kernel
theorem d_H_joined_96 : decode prog_6_method_9_code 96 = .ok (.if_icmp .ge 7, 3) := by decide +kernel
theorem d_H_joined_103 : decode prog_6_method_9_code 103 = .ok (.iconst 0, 1) := by decide +kernel
theorem d_H_joined_104 : decode prog_6_method_9_code 104 = .ok (.invokestatic 80, 3) := by decide +kernel
theorem d_H_joined_107 : decode prog_6_method_9_code 107 = .ok (.ireturn, 1) := by decide +kernel
theorem d_H_joined_99 : decode prog_6_method_9_code 99 = .ok (.iconst 1, 1) := by decide +kernel
theorem d_H_joined_100 : decode prog_6_method_9_code 100 = .ok (.goto 4, 3) := by decide +kernel
theorem d_H_joined_77 : decode prog_6_method_9_code 77 = .ok (.iload_n 1, 1) := by decide +kernel
theorem d_H_joined_78 : decode prog_6_method_9_code 78 = .ok (.ifCond .eq 11, 3) := by decide +kernel
theorem d_H_joined_89 : decode prog_6_method_9_code 89 = .ok (.iconst 0, 1) := by decide +kernel
theorem d_H_joined_90 : decode prog_6_method_9_code 90 = .ok (.invokestatic 80, 3) := by decide +kernel
theorem d_H_joined_93 : decode prog_6_method_9_code 93 = .ok (.ireturn, 1) := by decide +kernel
theorem d_H_joined_81 : decode prog_6_method_9_code 81 = .ok (.iload_n 2, 1) := by decide +kernel
theorem d_H_joined_82 : decode prog_6_method_9_code 82 = .ok (.ifCond .eq 7, 3) := by decide +kernel
theorem d_H_joined_85 : decode prog_6_method_9_code 85 = .ok (.iconst 1, 1) := by decide +kernel
theorem d_H_joined_86 : decode prog_6_method_9_code 86 = .ok (.goto 4, 3) := by decide +kernel
theorem d_H_joined_60 : decode prog_6_method_9_code 60 = .ok (.iload_n 1, 1) := by decide +kernel
theorem d_H_joined_61 : decode prog_6_method_9_code 61 = .ok (.ifCond .ne 7, 3) := by decide +kernel
theorem d_H_joined_68 : decode prog_6_method_9_code 68 = .ok (.iconst 1, 1) := by decide +kernel
theorem d_H_joined_69 : decode prog_6_method_9_code 69 = .ok (.goto 4, 3) := by decide +kernel
theorem d_H_joined_73 : decode prog_6_method_9_code 73 = .ok (.invokestatic 80, 3) := by decide +kernel
theorem d_H_joined_76 : decode prog_6_method_9_code 76 = .ok (.ireturn, 1) := by decide +kernel
theorem d_H_joined_64 : decode prog_6_method_9_code 64 = .ok (.iload_n 2, 1) := by decide +kernel
theorem d_H_joined_65 : decode prog_6_method_9_code 65 = .ok (.ifCond .eq 7, 3) := by decide +kernel
theorem d_H_joined_72 : decode prog_6_method_9_code 72 = .ok (.iconst 0, 1) := by decide +kernel
theorem d_H_workOut_0 : decode prog_6_method_8_code 0 = .ok (.aload_n 0, 1) := by decide +kernel
theorem d_H_workOut_1 : decode prog_6_method_8_code 1 = .ok (.getfield 31, 3) := by decide +kernel
theorem d_H_workOut_4 : decode prog_6_method_8_code 4 = .ok (.iload_n 1, 1) := by decide +kernel
theorem d_H_workOut_5 : decode prog_6_method_8_code 5 = .ok (.aaload, 1) := by decide +kernel
theorem d_H_workOut_6 : decode prog_6_method_8_code 6 = .ok (.astore 4, 2) := by decide +kernel
theorem d_H_workOut_8 : decode prog_6_method_8_code 8 = .ok (.aload 4, 2) := by decide +kernel
theorem d_H_workOut_10 : decode prog_6_method_8_code 10 = .ok (.ifnonnull 5, 3) := by decide +kernel
theorem d_H_workOut_15 : decode prog_6_method_8_code 15 = .ok (.aload 4, 2) := by decide +kernel
theorem d_H_workOut_17 : decode prog_6_method_8_code 17 = .ok (.getstatic 68, 3) := by decide +kernel
theorem d_H_workOut_20 : decode prog_6_method_8_code 20 = .ok (.if_acmp .eq 12, 3) := by decide +kernel
theorem d_H_workOut_32 : decode prog_6_method_8_code 32 = .ok (.iload_n 2, 1) := by decide +kernel
theorem d_H_workOut_33 : decode prog_6_method_8_code 33 = .ok (.bipush 64, 2) := by decide +kernel
theorem d_H_workOut_35 : decode prog_6_method_8_code 35 = .ok (.if_icmp .ge 13, 3) := by decide +kernel
theorem d_H_workOut_48 : decode prog_6_method_8_code 48 = .ok (.iload_n 2, 1) := by decide +kernel
theorem d_H_workOut_49 : decode prog_6_method_8_code 49 = .ok (.ireturn, 1) := by decide +kernel
theorem d_H_workOut_38 : decode prog_6_method_8_code 38 = .ok (.aload 4, 2) := by decide +kernel
theorem d_H_workOut_40 : decode prog_6_method_8_code 40 = .ok (.getfield 74, 3) := by decide +kernel
theorem d_H_workOut_43 : decode prog_6_method_8_code 43 = .ok (.aload_n 3, 1) := by decide +kernel
theorem d_H_workOut_44 : decode prog_6_method_8_code 44 = .ok (.arraylength, 1) := by decide +kernel
theorem d_H_workOut_45 : decode prog_6_method_8_code 45 = .ok (.if_icmp .lt 5, 3) := by decide +kernel
theorem d_H_workOut_50 : decode prog_6_method_8_code 50 = .ok (.aload_n 0, 1) := by decide +kernel
theorem d_H_workOut_51 : decode prog_6_method_8_code 51 = .ok (.getfield 37, 3) := by decide +kernel
theorem d_H_workOut_54 : decode prog_6_method_8_code 54 = .ok (.iload_n 2, 1) := by decide +kernel
theorem d_H_workOut_55 : decode prog_6_method_8_code 55 = .ok (.aload 4, 2) := by decide +kernel
theorem d_H_workOut_57 : decode prog_6_method_8_code 57 = .ok (.getstatic 68, 3) := by decide +kernel
theorem d_H_workOut_60 : decode prog_6_method_8_code 60 = .ok (.if_acmp .ne 12, 3) := by decide +kernel
theorem d_H_workOut_72 : decode prog_6_method_8_code 72 = .ok (.aload_n 3, 1) := by decide +kernel
theorem d_H_workOut_73 : decode prog_6_method_8_code 73 = .ok (.aload 4, 2) := by decide +kernel
theorem d_H_workOut_75 : decode prog_6_method_8_code 75 = .ok (.getfield 74, 3) := by decide +kernel
theorem d_H_workOut_78 : decode prog_6_method_8_code 78 = .ok (.iaload, 1) := by decide +kernel
theorem d_H_workOut_79 : decode prog_6_method_8_code 79 = .ok (.iastore, 1) := by decide +kernel
theorem d_H_workOut_80 : decode prog_6_method_8_code 80 = .ok (.iload_n 2, 1) := by decide +kernel
theorem d_H_workOut_81 : decode prog_6_method_8_code 81 = .ok (.iconst 1, 1) := by decide +kernel
theorem d_H_workOut_82 : decode prog_6_method_8_code 82 = .ok (.iadd, 1) := by decide +kernel
theorem d_H_workOut_83 : decode prog_6_method_8_code 83 = .ok (.ireturn, 1) := by decide +kernel
theorem d_H_workOut_63 : decode prog_6_method_8_code 63 = .ok (.aload_n 0, 1) := by decide +kernel
theorem d_H_workOut_64 : decode prog_6_method_8_code 64 = .ok (.getfield 34, 3) := by decide +kernel
theorem d_H_workOut_67 : decode prog_6_method_8_code 67 = .ok (.iload_n 1, 1) := by decide +kernel
theorem d_H_workOut_68 : decode prog_6_method_8_code 68 = .ok (.iaload, 1) := by decide +kernel
theorem d_H_workOut_69 : decode prog_6_method_8_code 69 = .ok (.goto 10, 3) := by decide +kernel
theorem d_H_workOut_23 : decode prog_6_method_8_code 23 = .ok (.aload 4, 2) := by decide +kernel
theorem d_H_workOut_25 : decode prog_6_method_8_code 25 = .ok (.getfield 71, 3) := by decide +kernel
theorem d_H_workOut_28 : decode prog_6_method_8_code 28 = .ok (.iconst 2, 1) := by decide +kernel
theorem d_H_workOut_29 : decode prog_6_method_8_code 29 = .ok (.if_icmp .ne 55, 3) := by decide +kernel
theorem d_H_workOut_84 : decode prog_6_method_8_code 84 = .ok (.aload 4, 2) := by decide +kernel
theorem d_H_workOut_86 : decode prog_6_method_8_code 86 = .ok (.getstatic 77, 3) := by decide +kernel
theorem d_H_workOut_89 : decode prog_6_method_8_code 89 = .ok (.if_acmp .ne 37, 3) := by decide +kernel
theorem d_H_workOut_126 : decode prog_6_method_8_code 126 = .ok (.iload_n 2, 1) := by decide +kernel
theorem d_H_workOut_127 : decode prog_6_method_8_code 127 = .ok (.iconst 2, 1) := by decide +kernel
theorem d_H_workOut_128 : decode prog_6_method_8_code 128 = .ok (.if_icmp .ge 5, 3) := by decide +kernel
theorem d_H_workOut_133 : decode prog_6_method_8_code 133 = .ok (.aload_n 0, 1) := by decide +kernel
theorem d_H_workOut_134 : decode prog_6_method_8_code 134 = .ok (.getfield 37, 3) := by decide +kernel
theorem d_H_workOut_137 : decode prog_6_method_8_code 137 = .ok (.iload_n 2, 1) := by decide +kernel
theorem d_H_workOut_138 : decode prog_6_method_8_code 138 = .ok (.iconst 2, 1) := by decide +kernel
theorem d_H_workOut_139 : decode prog_6_method_8_code 139 = .ok (.isub, 1) := by decide +kernel
theorem d_H_workOut_140 : decode prog_6_method_8_code 140 = .ok (.aload 4, 2) := by decide +kernel
theorem d_H_workOut_142 : decode prog_6_method_8_code 142 = .ok (.aload_n 0, 1) := by decide +kernel
theorem d_H_workOut_143 : decode prog_6_method_8_code 143 = .ok (.getfield 37, 3) := by decide +kernel
theorem d_H_workOut_146 : decode prog_6_method_8_code 146 = .ok (.iload_n 2, 1) := by decide +kernel
theorem d_H_workOut_147 : decode prog_6_method_8_code 147 = .ok (.iconst 2, 1) := by decide +kernel
theorem d_H_workOut_148 : decode prog_6_method_8_code 148 = .ok (.isub, 1) := by decide +kernel
theorem d_H_workOut_149 : decode prog_6_method_8_code 149 = .ok (.iaload, 1) := by decide +kernel
theorem d_H_workOut_150 : decode prog_6_method_8_code 150 = .ok (.aload_n 0, 1) := by decide +kernel
theorem d_H_workOut_151 : decode prog_6_method_8_code 151 = .ok (.getfield 37, 3) := by decide +kernel
theorem d_H_workOut_154 : decode prog_6_method_8_code 154 = .ok (.iload_n 2, 1) := by decide +kernel
theorem d_H_workOut_155 : decode prog_6_method_8_code 155 = .ok (.iconst 1, 1) := by decide +kernel
theorem d_H_workOut_156 : decode prog_6_method_8_code 156 = .ok (.isub, 1) := by decide +kernel
theorem d_H_workOut_157 : decode prog_6_method_8_code 157 = .ok (.iaload, 1) := by decide +kernel
theorem d_H_workOut_158 : decode prog_6_method_8_code 158 = .ok (.invokestatic 84, 3) := by decide +kernel
theorem d_H_workOut_161 : decode prog_6_method_8_code 161 = .ok (.iastore, 1) := by decide +kernel
theorem d_H_workOut_162 : decode prog_6_method_8_code 162 = .ok (.iload_n 2, 1) := by decide +kernel
theorem d_H_workOut_163 : decode prog_6_method_8_code 163 = .ok (.iconst 1, 1) := by decide +kernel
theorem d_H_workOut_164 : decode prog_6_method_8_code 164 = .ok (.isub, 1) := by decide +kernel
theorem d_H_workOut_165 : decode prog_6_method_8_code 165 = .ok (.ireturn, 1) := by decide +kernel
theorem d_H_workOut_131 : decode prog_6_method_8_code 131 = .ok (.iload_n 2, 1) := by decide +kernel
theorem d_H_workOut_132 : decode prog_6_method_8_code 132 = .ok (.ireturn, 1) := by decide +kernel
theorem d_H_workOut_92 : decode prog_6_method_8_code 92 = .ok (.iload_n 2, 1) := by decide +kernel
theorem d_H_workOut_93 : decode prog_6_method_8_code 93 = .ok (.iconst 1, 1) := by decide +kernel
theorem d_H_workOut_94 : decode prog_6_method_8_code 94 = .ok (.if_icmp .lt 30, 3) := by decide +kernel
theorem d_H_workOut_124 : decode prog_6_method_8_code 124 = .ok (.iload_n 2, 1) := by decide +kernel
theorem d_H_workOut_125 : decode prog_6_method_8_code 125 = .ok (.ireturn, 1) := by decide +kernel
theorem d_H_workOut_97 : decode prog_6_method_8_code 97 = .ok (.aload_n 0, 1) := by decide +kernel
theorem d_H_workOut_98 : decode prog_6_method_8_code 98 = .ok (.getfield 37, 3) := by decide +kernel
theorem d_H_workOut_101 : decode prog_6_method_8_code 101 = .ok (.iload_n 2, 1) := by decide +kernel
theorem d_H_workOut_102 : decode prog_6_method_8_code 102 = .ok (.iconst 1, 1) := by decide +kernel
theorem d_H_workOut_103 : decode prog_6_method_8_code 103 = .ok (.isub, 1) := by decide +kernel
theorem d_H_workOut_104 : decode prog_6_method_8_code 104 = .ok (.aload_n 0, 1) := by decide +kernel
theorem d_H_workOut_105 : decode prog_6_method_8_code 105 = .ok (.getfield 37, 3) := by decide +kernel
theorem d_H_workOut_108 : decode prog_6_method_8_code 108 = .ok (.iload_n 2, 1) := by decide +kernel
theorem d_H_workOut_109 : decode prog_6_method_8_code 109 = .ok (.iconst 1, 1) := by decide +kernel
theorem d_H_workOut_110 : decode prog_6_method_8_code 110 = .ok (.isub, 1) := by decide +kernel
theorem d_H_workOut_111 : decode prog_6_method_8_code 111 = .ok (.iaload, 1) := by decide +kernel
theorem d_H_workOut_112 : decode prog_6_method_8_code 112 = .ok (.ifCond .ne 7, 3) := by decide +kernel
theorem d_H_workOut_119 : decode prog_6_method_8_code 119 = .ok (.iconst 0, 1) := by decide +kernel
theorem d_H_workOut_120 : decode prog_6_method_8_code 120 = .ok (.invokestatic 80, 3) := by decide +kernel
theorem d_H_workOut_123 : decode prog_6_method_8_code 123 = .ok (.iastore, 1) := by decide +kernel
theorem d_H_workOut_115 : decode prog_6_method_8_code 115 = .ok (.iconst 1, 1) := by decide +kernel
theorem d_H_workOut_116 : decode prog_6_method_8_code 116 = .ok (.goto 4, 3) := by decide +kernel
theorem d_H_workOut_13 : decode prog_6_method_8_code 13 = .ok (.iload_n 2, 1) := by decide +kernel
theorem d_H_workOut_14 : decode prog_6_method_8_code 14 = .ok (.ireturn, 1) := by decide +kernel
theorem d_H_holds_0 : decode prog_6_method_7_code 0 = .ok (.iload_n 1, 1) := by decide +kernel
theorem d_H_holds_1 : decode prog_6_method_7_code 1 = .ok (.ifCond .lt 11, 3) := by decide +kernel
theorem d_H_holds_12 : decode prog_6_method_7_code 12 = .ok (.iconst 0, 1) := by decide +kernel
theorem d_H_holds_13 : decode prog_6_method_7_code 13 = .ok (.ireturn, 1) := by decide +kernel
theorem d_H_holds_4 : decode prog_6_method_7_code 4 = .ok (.iload_n 1, 1) := by decide +kernel
theorem d_H_holds_5 : decode prog_6_method_7_code 5 = .ok (.aload_n 0, 1) := by decide +kernel
theorem d_H_holds_6 : decode prog_6_method_7_code 6 = .ok (.getfield 47, 3) := by decide +kernel
theorem d_H_holds_9 : decode prog_6_method_7_code 9 = .ok (.if_icmp .lt 5, 3) := by decide +kernel
theorem d_H_holds_14 : decode prog_6_method_7_code 14 = .ok (.iconst 0, 1) := by decide +kernel
theorem d_H_holds_15 : decode prog_6_method_7_code 15 = .ok (.istore_n 3, 1) := by decide +kernel
theorem d_H_holds_16 : decode prog_6_method_7_code 16 = .ok (.aload_n 0, 1) := by decide +kernel
theorem d_H_holds_17 : decode prog_6_method_7_code 17 = .ok (.getfield 25, 3) := by decide +kernel
theorem d_H_holds_20 : decode prog_6_method_7_code 20 = .ok (.iload_n 1, 1) := by decide +kernel
theorem d_H_holds_21 : decode prog_6_method_7_code 21 = .ok (.iaload, 1) := by decide +kernel
theorem d_H_holds_22 : decode prog_6_method_7_code 22 = .ok (.istore 4, 2) := by decide +kernel
theorem d_H_holds_24 : decode prog_6_method_7_code 24 = .ok (.iload 4, 2) := by decide +kernel
theorem d_H_holds_26 : decode prog_6_method_7_code 26 = .ok (.aload_n 0, 1) := by decide +kernel
theorem d_H_holds_27 : decode prog_6_method_7_code 27 = .ok (.getfield 28, 3) := by decide +kernel
theorem d_H_holds_30 : decode prog_6_method_7_code 30 = .ok (.iload_n 1, 1) := by decide +kernel
theorem d_H_holds_31 : decode prog_6_method_7_code 31 = .ok (.iaload, 1) := by decide +kernel
theorem d_H_holds_32 : decode prog_6_method_7_code 32 = .ok (.if_icmp .ge 18, 3) := by decide +kernel
theorem d_H_holds_35 : decode prog_6_method_7_code 35 = .ok (.aload_n 0, 1) := by decide +kernel
theorem d_H_holds_36 : decode prog_6_method_7_code 36 = .ok (.iload 4, 2) := by decide +kernel
theorem d_H_holds_38 : decode prog_6_method_7_code 38 = .ok (.iload_n 3, 1) := by decide +kernel
theorem d_H_holds_39 : decode prog_6_method_7_code 39 = .ok (.aload_n 2, 1) := by decide +kernel
theorem d_H_holds_40 : decode prog_6_method_7_code 40 = .ok (.invokevirtual 64, 3) := by decide +kernel
theorem d_H_holds_43 : decode prog_6_method_7_code 43 = .ok (.istore_n 3, 1) := by decide +kernel
theorem d_H_holds_44 : decode prog_6_method_7_code 44 = .ok (.iinc 4 1, 3) := by decide +kernel
theorem d_H_holds_47 : decode prog_6_method_7_code 47 = .ok (.goto (-23), 3) := by decide +kernel
theorem d_H_holds_50 : decode prog_6_method_7_code 50 = .ok (.iload_n 3, 1) := by decide +kernel
theorem d_H_holds_51 : decode prog_6_method_7_code 51 = .ok (.iconst 1, 1) := by decide +kernel
theorem d_H_holds_52 : decode prog_6_method_7_code 52 = .ok (.if_icmp .ne 16, 3) := by decide +kernel
theorem d_H_holds_68 : decode prog_6_method_7_code 68 = .ok (.iconst 0, 1) := by decide +kernel
theorem d_H_holds_69 : decode prog_6_method_7_code 69 = .ok (.ireturn, 1) := by decide +kernel
theorem d_H_holds_55 : decode prog_6_method_7_code 55 = .ok (.aload_n 0, 1) := by decide +kernel
theorem d_H_holds_56 : decode prog_6_method_7_code 56 = .ok (.getfield 37, 3) := by decide +kernel
theorem d_H_holds_59 : decode prog_6_method_7_code 59 = .ok (.iconst 0, 1) := by decide +kernel
theorem d_H_holds_60 : decode prog_6_method_7_code 60 = .ok (.iaload, 1) := by decide +kernel
theorem d_H_holds_61 : decode prog_6_method_7_code 61 = .ok (.ifCond .eq 7, 3) := by decide +kernel
theorem d_H_holds_64 : decode prog_6_method_7_code 64 = .ok (.iconst 1, 1) := by decide +kernel
theorem d_H_holds_65 : decode prog_6_method_7_code 65 = .ok (.goto 4, 3) := by decide +kernel
theorem d_C_takeUp_0 : decode prog_1_method_56_code 0 = .ok (.aload_n 0, 1) := by decide +kernel
theorem d_C_takeUp_1 : decode prog_1_method_56_code 1 = .ok (.getfield 52, 3) := by decide +kernel
theorem d_C_takeUp_4 : decode prog_1_method_56_code 4 = .ok (.iload_n 1, 1) := by decide +kernel
theorem d_C_takeUp_5 : decode prog_1_method_56_code 5 = .ok (.iload_n 2, 1) := by decide +kernel
theorem d_C_takeUp_6 : decode prog_1_method_56_code 6 = .ok (.aload_n 0, 1) := by decide +kernel
theorem d_C_takeUp_7 : decode prog_1_method_56_code 7 = .ok (.getfield 139, 3) := by decide +kernel
theorem d_C_takeUp_10 : decode prog_1_method_56_code 10 = .ok (.invokevirtual 386, 3) := by decide +kernel
theorem d_C_takeUp_13 : decode prog_1_method_56_code 13 = .ok (.iconst 0, 1) := by decide +kernel
theorem d_C_takeUp_14 : decode prog_1_method_56_code 14 = .ok (.istore_n 3, 1) := by decide +kernel
theorem d_C_takeUp_15 : decode prog_1_method_56_code 15 = .ok (.iload_n 3, 1) := by decide +kernel
theorem d_C_takeUp_16 : decode prog_1_method_56_code 16 = .ok (.aload_n 0, 1) := by decide +kernel
theorem d_C_takeUp_17 : decode prog_1_method_56_code 17 = .ok (.getfield 16, 3) := by decide +kernel
theorem d_C_takeUp_20 : decode prog_1_method_56_code 20 = .ok (.getfield 337, 3) := by decide +kernel
theorem d_C_takeUp_23 : decode prog_1_method_56_code 23 = .ok (.if_icmp .ge 95, 3) := by decide +kernel
theorem d_C_takeUp_26 : decode prog_1_method_56_code 26 = .ok (.aload_n 0, 1) := by decide +kernel
theorem d_C_takeUp_27 : decode prog_1_method_56_code 27 = .ok (.getfield 16, 3) := by decide +kernel
theorem d_C_takeUp_30 : decode prog_1_method_56_code 30 = .ok (.getfield 389, 3) := by decide +kernel
theorem d_C_takeUp_33 : decode prog_1_method_56_code 33 = .ok (.iload_n 3, 1) := by decide +kernel
theorem d_C_takeUp_34 : decode prog_1_method_56_code 34 = .ok (.iaload, 1) := by decide +kernel
theorem d_C_takeUp_35 : decode prog_1_method_56_code 35 = .ok (.iload_n 1, 1) := by decide +kernel
theorem d_C_takeUp_36 : decode prog_1_method_56_code 36 = .ok (.invokestatic 110, 3) := by decide +kernel
theorem d_C_takeUp_39 : decode prog_1_method_56_code 39 = .ok (.ifCond .eq 73, 3) := by decide +kernel
theorem d_C_takeUp_112 : decode prog_1_method_56_code 112 = .ok (.iinc 3 1, 3) := by decide +kernel
theorem d_C_takeUp_115 : decode prog_1_method_56_code 115 = .ok (.goto (-100), 3) := by decide +kernel
theorem d_C_takeUp_42 : decode prog_1_method_56_code 42 = .ok (.aload_n 0, 1) := by decide +kernel
theorem d_C_takeUp_43 : decode prog_1_method_56_code 43 = .ok (.iload_n 1, 1) := by decide +kernel
theorem d_C_takeUp_44 : decode prog_1_method_56_code 44 = .ok (.iload_n 2, 1) := by decide +kernel
theorem d_C_takeUp_45 : decode prog_1_method_56_code 45 = .ok (.invokevirtual 392, 3) := by decide +kernel
theorem d_C_takeUp_48 : decode prog_1_method_56_code 48 = .ok (.aload_n 0, 1) := by decide +kernel
theorem d_C_takeUp_49 : decode prog_1_method_56_code 49 = .ok (.getfield 16, 3) := by decide +kernel
theorem d_C_takeUp_52 : decode prog_1_method_56_code 52 = .ok (.iload_n 3, 1) := by decide +kernel
theorem d_C_takeUp_53 : decode prog_1_method_56_code 53 = .ok (.aload_n 0, 1) := by decide +kernel
theorem d_C_takeUp_54 : decode prog_1_method_56_code 54 = .ok (.getfield 32, 3) := by decide +kernel
theorem d_C_takeUp_57 : decode prog_1_method_56_code 57 = .ok (.invokevirtual 395, 3) := by decide +kernel
theorem d_C_takeUp_60 : decode prog_1_method_56_code 60 = .ok (.ifCond .eq 52, 3) := by decide +kernel
theorem d_C_takeUp_63 : decode prog_1_method_56_code 63 = .ok (.aload_n 0, 1) := by decide +kernel
theorem d_C_takeUp_64 : decode prog_1_method_56_code 64 = .ok (.getfield 16, 3) := by decide +kernel
theorem d_C_takeUp_67 : decode prog_1_method_56_code 67 = .ok (.getfield 398, 3) := by decide +kernel
theorem d_C_takeUp_70 : decode prog_1_method_56_code 70 = .ok (.iload_n 3, 1) := by decide +kernel
theorem d_C_takeUp_71 : decode prog_1_method_56_code 71 = .ok (.baload, 1) := by decide +kernel
theorem d_C_takeUp_72 : decode prog_1_method_56_code 72 = .ok (.ifCond .eq 15, 3) := by decide +kernel
theorem d_C_takeUp_87 : decode prog_1_method_56_code 87 = .ok (.aload_n 0, 1) := by decide +kernel
theorem d_C_takeUp_88 : decode prog_1_method_56_code 88 = .ok (.getfield 38, 3) := by decide +kernel
theorem d_C_takeUp_91 : decode prog_1_method_56_code 91 = .ok (.getfield 172, 3) := by decide +kernel
theorem d_C_takeUp_94 : decode prog_1_method_56_code 94 = .ok (.iload_n 2, 1) := by decide +kernel
theorem d_C_takeUp_95 : decode prog_1_method_56_code 95 = .ok (.iaload, 1) := by decide +kernel
theorem d_C_takeUp_96 : decode prog_1_method_56_code 96 = .ok (.invokestatic 262, 3) := by decide +kernel
theorem d_C_takeUp_99 : decode prog_1_method_56_code 99 = .ok (.istore 4, 2) := by decide +kernel
theorem d_C_takeUp_101 : decode prog_1_method_56_code 101 = .ok (.aload_n 0, 1) := by decide +kernel
theorem d_C_takeUp_102 : decode prog_1_method_56_code 102 = .ok (.iload_n 1, 1) := by decide +kernel
theorem d_C_takeUp_103 : decode prog_1_method_56_code 103 = .ok (.iload 4, 2) := by decide +kernel
theorem d_C_takeUp_105 : decode prog_1_method_56_code 105 = .ok (.iconst 0, 1) := by decide +kernel
theorem d_C_takeUp_106 : decode prog_1_method_56_code 106 = .ok (.iload_n 2, 1) := by decide +kernel
theorem d_C_takeUp_107 : decode prog_1_method_56_code 107 = .ok (.iconst (-1), 1) := by decide +kernel
theorem d_C_takeUp_108 : decode prog_1_method_56_code 108 = .ok (.invokevirtual 118, 3) := by decide +kernel
theorem d_C_takeUp_111 : decode prog_1_method_56_code 111 = .ok (.pop, 1) := by decide +kernel
theorem d_C_takeUp_75 : decode prog_1_method_56_code 75 = .ok (.bipush 63, 2) := by decide +kernel
theorem d_C_takeUp_77 : decode prog_1_method_56_code 77 = .ok (.iload_n 1, 1) := by decide +kernel
theorem d_C_takeUp_78 : decode prog_1_method_56_code 78 = .ok (.invokestatic 262, 3) := by decide +kernel
theorem d_C_takeUp_81 : decode prog_1_method_56_code 81 = .ok (.iconst (-1), 1) := by decide +kernel
theorem d_C_takeUp_82 : decode prog_1_method_56_code 82 = .ok (.ixor, 1) := by decide +kernel
theorem d_C_takeUp_83 : decode prog_1_method_56_code 83 = .ok (.iand, 1) := by decide +kernel
theorem d_C_takeUp_84 : decode prog_1_method_56_code 84 = .ok (.goto 15, 3) := by decide +kernel
theorem d_C_takeUp_118 : decode prog_1_method_56_code 118 = .ok (.return_, 1) := by decide +kernel
theorem d_C_clearDesk_0 : decode prog_1_method_53_code 0 = .ok (.iconst 0, 1) := by decide +kernel
theorem d_C_clearDesk_1 : decode prog_1_method_53_code 1 = .ok (.istore_n 2, 1) := by decide +kernel
theorem d_C_clearDesk_2 : decode prog_1_method_53_code 2 = .ok (.iload_n 2, 1) := by decide +kernel
theorem d_C_clearDesk_3 : decode prog_1_method_53_code 3 = .ok (.bipush 30, 2) := by decide +kernel
theorem d_C_clearDesk_5 : decode prog_1_method_53_code 5 = .ok (.if_icmp .ge 27, 3) := by decide +kernel
theorem d_C_clearDesk_8 : decode prog_1_method_53_code 8 = .ok (.aload_n 0, 1) := by decide +kernel
theorem d_C_clearDesk_9 : decode prog_1_method_53_code 9 = .ok (.iload_n 1, 1) := by decide +kernel
theorem d_C_clearDesk_10 : decode prog_1_method_53_code 10 = .ok (.invokevirtual 358, 3) := by decide +kernel
theorem d_C_clearDesk_13 : decode prog_1_method_53_code 13 = .ok (.istore_n 3, 1) := by decide +kernel
theorem d_C_clearDesk_14 : decode prog_1_method_53_code 14 = .ok (.iload_n 3, 1) := by decide +kernel
theorem d_C_clearDesk_15 : decode prog_1_method_53_code 15 = .ok (.iconst (-1), 1) := by decide +kernel
theorem d_C_clearDesk_16 : decode prog_1_method_53_code 16 = .ok (.if_icmp .ne 4, 3) := by decide +kernel
theorem d_C_clearDesk_20 : decode prog_1_method_53_code 20 = .ok (.aload_n 0, 1) := by decide +kernel
theorem d_C_clearDesk_21 : decode prog_1_method_53_code 21 = .ok (.iload_n 1, 1) := by decide +kernel
theorem d_C_clearDesk_22 : decode prog_1_method_53_code 22 = .ok (.iload_n 3, 1) := by decide +kernel
theorem d_C_clearDesk_23 : decode prog_1_method_53_code 23 = .ok (.invokevirtual 158, 3) := by decide +kernel
theorem d_C_clearDesk_26 : decode prog_1_method_53_code 26 = .ok (.iinc 2 1, 3) := by decide +kernel
theorem d_C_clearDesk_29 : decode prog_1_method_53_code 29 = .ok (.goto (-27), 3) := by decide +kernel
theorem d_C_clearDesk_19 : decode prog_1_method_53_code 19 = .ok (.return_, 1) := by decide +kernel
theorem d_C_clearDesk_32 : decode prog_1_method_53_code 32 = .ok (.return_, 1) := by decide +kernel
theorem d_C_days_0 : decode prog_1_method_11_code 0 = .ok (.iload_n 1, 1) := by decide +kernel
theorem d_C_days_1 : decode prog_1_method_11_code 1 = .ok (.ifCond .lt 21, 3) := by decide +kernel
theorem d_C_days_22 : decode prog_1_method_11_code 22 = .ok (.iconst (-1), 1) := by decide +kernel
theorem d_C_days_23 : decode prog_1_method_11_code 23 = .ok (.ireturn, 1) := by decide +kernel
theorem d_C_days_4 : decode prog_1_method_11_code 4 = .ok (.iload_n 1, 1) := by decide +kernel
theorem d_C_days_5 : decode prog_1_method_11_code 5 = .ok (.bipush 99, 2) := by decide +kernel
theorem d_C_days_7 : decode prog_1_method_11_code 7 = .ok (.if_icmp .gt 15, 3) := by decide +kernel
theorem d_C_days_10 : decode prog_1_method_11_code 10 = .ok (.aload_n 0, 1) := by decide +kernel
theorem d_C_days_11 : decode prog_1_method_11_code 11 = .ok (.getfield 139, 3) := by decide +kernel
theorem d_C_days_14 : decode prog_1_method_11_code 14 = .ok (.iload_n 1, 1) := by decide +kernel
theorem d_C_days_15 : decode prog_1_method_11_code 15 = .ok (.iadd, 1) := by decide +kernel
theorem d_C_days_16 : decode prog_1_method_11_code 16 = .ok (.sipush 999, 3) := by decide +kernel
theorem d_C_days_19 : decode prog_1_method_11_code 19 = .ok (.if_icmp .le 5, 3) := by decide +kernel
theorem d_C_days_24 : decode prog_1_method_11_code 24 = .ok (.iconst 0, 1) := by decide +kernel
theorem d_C_days_25 : decode prog_1_method_11_code 25 = .ok (.istore_n 2, 1) := by decide +kernel
theorem d_C_days_26 : decode prog_1_method_11_code 26 = .ok (.iload_n 2, 1) := by decide +kernel
theorem d_C_days_27 : decode prog_1_method_11_code 27 = .ok (.iload_n 1, 1) := by decide +kernel
theorem d_C_days_28 : decode prog_1_method_11_code 28 = .ok (.if_icmp .ge 42, 3) := by decide +kernel
theorem d_C_days_31 : decode prog_1_method_11_code 31 = .ok (.aload_n 0, 1) := by decide +kernel
theorem d_C_days_32 : decode prog_1_method_11_code 32 = .ok (.dup, 1) := by decide +kernel
theorem d_C_days_33 : decode prog_1_method_11_code 33 = .ok (.getfield 139, 3) := by decide +kernel
theorem d_C_days_36 : decode prog_1_method_11_code 36 = .ok (.iconst 1, 1) := by decide +kernel
theorem d_C_days_37 : decode prog_1_method_11_code 37 = .ok (.iadd, 1) := by decide +kernel
theorem d_C_days_38 : decode prog_1_method_11_code 38 = .ok (.putfield 139, 3) := by decide +kernel
theorem d_C_days_41 : decode prog_1_method_11_code 41 = .ok (.aload_n 0, 1) := by decide +kernel
theorem d_C_days_42 : decode prog_1_method_11_code 42 = .ok (.invokevirtual 149, 3) := by decide +kernel
theorem d_C_days_45 : decode prog_1_method_11_code 45 = .ok (.iconst 0, 1) := by decide +kernel
theorem d_C_days_46 : decode prog_1_method_11_code 46 = .ok (.istore_n 3, 1) := by decide +kernel
theorem d_C_days_47 : decode prog_1_method_11_code 47 = .ok (.iload_n 3, 1) := by decide +kernel
theorem d_C_days_48 : decode prog_1_method_11_code 48 = .ok (.bipush 6, 2) := by decide +kernel
theorem d_C_days_50 : decode prog_1_method_11_code 50 = .ok (.if_icmp .ge 14, 3) := by decide +kernel
theorem d_C_days_53 : decode prog_1_method_11_code 53 = .ok (.aload_n 0, 1) := by decide +kernel
theorem d_C_days_54 : decode prog_1_method_11_code 54 = .ok (.iload_n 3, 1) := by decide +kernel
theorem d_C_days_55 : decode prog_1_method_11_code 55 = .ok (.invokevirtual 152, 3) := by decide +kernel
theorem d_C_days_58 : decode prog_1_method_11_code 58 = .ok (.iinc 3 1, 3) := by decide +kernel
theorem d_C_days_61 : decode prog_1_method_11_code 61 = .ok (.goto (-14), 3) := by decide +kernel
theorem d_C_days_64 : decode prog_1_method_11_code 64 = .ok (.iinc 2 1, 3) := by decide +kernel
theorem d_C_days_67 : decode prog_1_method_11_code 67 = .ok (.goto (-41), 3) := by decide +kernel
theorem d_C_days_70 : decode prog_1_method_11_code 70 = .ok (.aload_n 0, 1) := by decide +kernel
theorem d_C_days_71 : decode prog_1_method_11_code 71 = .ok (.getfield 139, 3) := by decide +kernel
theorem d_C_days_74 : decode prog_1_method_11_code 74 = .ok (.ireturn, 1) := by decide +kernel
theorem d_C_read_0 : decode prog_1_method_12_code 0 = .ok (.aload_n 0, 1) := by decide +kernel
theorem d_C_read_1 : decode prog_1_method_12_code 1 = .ok (.getfield 52, 3) := by decide +kernel
theorem d_C_read_4 : decode prog_1_method_12_code 4 = .ok (.iload_n 1, 1) := by decide +kernel
theorem d_C_read_5 : decode prog_1_method_12_code 5 = .ok (.iload_n 2, 1) := by decide +kernel
theorem d_C_read_6 : decode prog_1_method_12_code 6 = .ok (.invokevirtual 155, 3) := by decide +kernel
theorem d_C_read_9 : decode prog_1_method_12_code 9 = .ok (.ifCond .ne 5, 3) := by decide +kernel
theorem d_C_read_14 : decode prog_1_method_12_code 14 = .ok (.aload_n 0, 1) := by decide +kernel
theorem d_C_read_15 : decode prog_1_method_12_code 15 = .ok (.iload_n 1, 1) := by decide +kernel
theorem d_C_read_16 : decode prog_1_method_12_code 16 = .ok (.iload_n 2, 1) := by decide +kernel
theorem d_C_read_17 : decode prog_1_method_12_code 17 = .ok (.invokevirtual 158, 3) := by decide +kernel
theorem d_C_read_20 : decode prog_1_method_12_code 20 = .ok (.aload_n 0, 1) := by decide +kernel
theorem d_C_read_21 : decode prog_1_method_12_code 21 = .ok (.getfield 52, 3) := by decide +kernel
theorem d_C_read_24 : decode prog_1_method_12_code 24 = .ok (.getfield 162, 3) := by decide +kernel
theorem d_C_read_27 : decode prog_1_method_12_code 27 = .ok (.iload_n 1, 1) := by decide +kernel
theorem d_C_read_28 : decode prog_1_method_12_code 28 = .ok (.iaload, 1) := by decide +kernel
theorem d_C_read_29 : decode prog_1_method_12_code 29 = .ok (.ireturn, 1) := by decide +kernel
theorem d_C_read_12 : decode prog_1_method_12_code 12 = .ok (.iconst (-1), 1) := by decide +kernel
theorem d_C_read_13 : decode prog_1_method_12_code 13 = .ok (.ireturn, 1) := by decide +kernel
theorem d_C_copy_0 : decode prog_1_method_14_code 0 = .ok (.aload_n 0, 1) := by decide +kernel
theorem d_C_copy_1 : decode prog_1_method_14_code 1 = .ok (.getfield 45, 3) := by decide +kernel
theorem d_C_copy_4 : decode prog_1_method_14_code 4 = .ok (.iload_n 1, 1) := by decide +kernel
theorem d_C_copy_5 : decode prog_1_method_14_code 5 = .ok (.invokevirtual 195, 3) := by decide +kernel
theorem d_C_copy_8 : decode prog_1_method_14_code 8 = .ok (.ifCond .ne 5, 3) := by decide +kernel
theorem d_C_copy_13 : decode prog_1_method_14_code 13 = .ok (.iload_n 2, 1) := by decide +kernel
theorem d_C_copy_14 : decode prog_1_method_14_code 14 = .ok (.tableswitch 70 0 3 #[30, 40, 50, 60], 30) := by decide +kernel
theorem d_C_copy_84 : decode prog_1_method_14_code 84 = .ok (.iconst (-1), 1) := by decide +kernel
theorem d_C_copy_85 : decode prog_1_method_14_code 85 = .ok (.ireturn, 1) := by decide +kernel
theorem d_C_copy_74 : decode prog_1_method_14_code 74 = .ok (.aload_n 0, 1) := by decide +kernel
theorem d_C_copy_75 : decode prog_1_method_14_code 75 = .ok (.getfield 45, 3) := by decide +kernel
theorem d_C_copy_78 : decode prog_1_method_14_code 78 = .ok (.getfield 129, 3) := by decide +kernel
theorem d_C_copy_81 : decode prog_1_method_14_code 81 = .ok (.iload_n 1, 1) := by decide +kernel
theorem d_C_copy_82 : decode prog_1_method_14_code 82 = .ok (.iaload, 1) := by decide +kernel
theorem d_C_copy_83 : decode prog_1_method_14_code 83 = .ok (.ireturn, 1) := by decide +kernel
theorem d_C_copy_64 : decode prog_1_method_14_code 64 = .ok (.aload_n 0, 1) := by decide +kernel
theorem d_C_copy_65 : decode prog_1_method_14_code 65 = .ok (.getfield 45, 3) := by decide +kernel
theorem d_C_copy_68 : decode prog_1_method_14_code 68 = .ok (.getfield 204, 3) := by decide +kernel
theorem d_C_copy_71 : decode prog_1_method_14_code 71 = .ok (.iload_n 1, 1) := by decide +kernel
theorem d_C_copy_72 : decode prog_1_method_14_code 72 = .ok (.iaload, 1) := by decide +kernel
theorem d_C_copy_73 : decode prog_1_method_14_code 73 = .ok (.ireturn, 1) := by decide +kernel
theorem d_C_copy_54 : decode prog_1_method_14_code 54 = .ok (.aload_n 0, 1) := by decide +kernel
theorem d_C_copy_55 : decode prog_1_method_14_code 55 = .ok (.getfield 45, 3) := by decide +kernel
theorem d_C_copy_58 : decode prog_1_method_14_code 58 = .ok (.getfield 201, 3) := by decide +kernel
theorem d_C_copy_61 : decode prog_1_method_14_code 61 = .ok (.iload_n 1, 1) := by decide +kernel
theorem d_C_copy_62 : decode prog_1_method_14_code 62 = .ok (.iaload, 1) := by decide +kernel
theorem d_C_copy_63 : decode prog_1_method_14_code 63 = .ok (.ireturn, 1) := by decide +kernel
theorem d_C_copy_44 : decode prog_1_method_14_code 44 = .ok (.aload_n 0, 1) := by decide +kernel
theorem d_C_copy_45 : decode prog_1_method_14_code 45 = .ok (.getfield 45, 3) := by decide +kernel
theorem d_C_copy_48 : decode prog_1_method_14_code 48 = .ok (.getfield 198, 3) := by decide +kernel
theorem d_C_copy_51 : decode prog_1_method_14_code 51 = .ok (.iload_n 1, 1) := by decide +kernel
theorem d_C_copy_52 : decode prog_1_method_14_code 52 = .ok (.iaload, 1) := by decide +kernel
theorem d_C_copy_53 : decode prog_1_method_14_code 53 = .ok (.ireturn, 1) := by decide +kernel
theorem d_C_copy_11 : decode prog_1_method_14_code 11 = .ok (.iconst (-1), 1) := by decide +kernel
theorem d_C_copy_12 : decode prog_1_method_14_code 12 = .ok (.ireturn, 1) := by decide +kernel
theorem d_C_desk_0 : decode prog_1_method_15_code 0 = .ok (.iload_n 1, 1) := by decide +kernel
theorem d_C_desk_1 : decode prog_1_method_15_code 1 = .ok (.invokestatic 102, 3) := by decide +kernel
theorem d_C_desk_4 : decode prog_1_method_15_code 4 = .ok (.ifCond .eq 20, 3) := by decide +kernel
theorem d_C_desk_24 : decode prog_1_method_15_code 24 = .ok (.iconst (-1), 1) := by decide +kernel
theorem d_C_desk_25 : decode prog_1_method_15_code 25 = .ok (.ireturn, 1) := by decide +kernel
theorem d_C_desk_7 : decode prog_1_method_15_code 7 = .ok (.iload_n 2, 1) := by decide +kernel
theorem d_C_desk_8 : decode prog_1_method_15_code 8 = .ok (.ifCond .lt 16, 3) := by decide +kernel
theorem d_C_desk_11 : decode prog_1_method_15_code 11 = .ok (.iload_n 2, 1) := by decide +kernel
theorem d_C_desk_12 : decode prog_1_method_15_code 12 = .ok (.aload_n 0, 1) := by decide +kernel
theorem d_C_desk_13 : decode prog_1_method_15_code 13 = .ok (.getfield 52, 3) := by decide +kernel
theorem d_C_desk_16 : decode prog_1_method_15_code 16 = .ok (.getfield 162, 3) := by decide +kernel
theorem d_C_desk_19 : decode prog_1_method_15_code 19 = .ok (.iload_n 1, 1) := by decide +kernel
theorem d_C_desk_20 : decode prog_1_method_15_code 20 = .ok (.iaload, 1) := by decide +kernel
theorem d_C_desk_21 : decode prog_1_method_15_code 21 = .ok (.if_icmp .lt 5, 3) := by decide +kernel
theorem d_C_desk_26 : decode prog_1_method_15_code 26 = .ok (.aload_n 0, 1) := by decide +kernel
theorem d_C_desk_27 : decode prog_1_method_15_code 27 = .ok (.getfield 52, 3) := by decide +kernel
theorem d_C_desk_30 : decode prog_1_method_15_code 30 = .ok (.iload_n 1, 1) := by decide +kernel
theorem d_C_desk_31 : decode prog_1_method_15_code 31 = .ok (.iload_n 2, 1) := by decide +kernel
theorem d_C_desk_32 : decode prog_1_method_15_code 32 = .ok (.invokevirtual 205, 3) := by decide +kernel
theorem d_C_desk_35 : decode prog_1_method_15_code 35 = .ok (.ireturn, 1) := by decide +kernel
theorem d_L_areTwo_0 : decode prog_7_method_3_code 0 = .ok (.aload_n 0, 1) := by decide +kernel
theorem d_L_areTwo_1 : decode prog_7_method_3_code 1 = .ok (.iload_n 1, 1) := by decide +kernel
theorem d_L_areTwo_2 : decode prog_7_method_3_code 2 = .ok (.invokevirtual 61, 3) := by decide +kernel
theorem d_L_areTwo_5 : decode prog_7_method_3_code 5 = .ok (.ifCond .eq 20, 3) := by decide +kernel
theorem d_L_areTwo_25 : decode prog_7_method_3_code 25 = .ok (.iconst 0, 1) := by decide +kernel
theorem d_L_areTwo_26 : decode prog_7_method_3_code 26 = .ok (.ireturn, 1) := by decide +kernel
theorem d_L_areTwo_8 : decode prog_7_method_3_code 8 = .ok (.aload_n 0, 1) := by decide +kernel
theorem d_L_areTwo_9 : decode prog_7_method_3_code 9 = .ok (.iload_n 2, 1) := by decide +kernel
theorem d_L_areTwo_10 : decode prog_7_method_3_code 10 = .ok (.invokevirtual 61, 3) := by decide +kernel
theorem d_L_areTwo_13 : decode prog_7_method_3_code 13 = .ok (.ifCond .eq 12, 3) := by decide +kernel
theorem d_L_areTwo_16 : decode prog_7_method_3_code 16 = .ok (.iload_n 1, 1) := by decide +kernel
theorem d_L_areTwo_17 : decode prog_7_method_3_code 17 = .ok (.iload_n 2, 1) := by decide +kernel
theorem d_L_areTwo_18 : decode prog_7_method_3_code 18 = .ok (.if_icmp .eq 7, 3) := by decide +kernel
theorem d_L_areTwo_21 : decode prog_7_method_3_code 21 = .ok (.iconst 1, 1) := by decide +kernel
theorem d_L_areTwo_22 : decode prog_7_method_3_code 22 = .ok (.goto 4, 3) := by decide +kernel
theorem d_C_before_0 : decode prog_1_method_16_code 0 = .ok (.aload_n 0, 1) := by decide +kernel
theorem d_C_before_1 : decode prog_1_method_16_code 1 = .ok (.getfield 38, 3) := by decide +kernel
theorem d_C_before_4 : decode prog_1_method_16_code 4 = .ok (.iload_n 1, 1) := by decide +kernel
theorem d_C_before_5 : decode prog_1_method_16_code 5 = .ok (.iload_n 2, 1) := by decide +kernel
theorem d_C_before_6 : decode prog_1_method_16_code 6 = .ok (.invokevirtual 208, 3) := by decide +kernel
theorem d_C_before_9 : decode prog_1_method_16_code 9 = .ok (.ifCond .ne 5, 3) := by decide +kernel
theorem d_C_before_14 : decode prog_1_method_16_code 14 = .ok (.aload_n 0, 1) := by decide +kernel
theorem d_C_before_15 : decode prog_1_method_16_code 15 = .ok (.getfield 38, 3) := by decide +kernel
theorem d_C_before_18 : decode prog_1_method_16_code 18 = .ok (.getfield 211, 3) := by decide +kernel
theorem d_C_before_21 : decode prog_1_method_16_code 21 = .ok (.iload_n 2, 1) := by decide +kernel
theorem d_C_before_22 : decode prog_1_method_16_code 22 = .ok (.iaload, 1) := by decide +kernel
theorem d_C_before_23 : decode prog_1_method_16_code 23 = .ok (.iload_n 1, 1) := by decide +kernel
theorem d_C_before_24 : decode prog_1_method_16_code 24 = .ok (.invokestatic 110, 3) := by decide +kernel
theorem d_C_before_27 : decode prog_1_method_16_code 27 = .ok (.ifCond .eq 5, 3) := by decide +kernel
theorem d_C_before_32 : decode prog_1_method_16_code 32 = .ok (.aload_n 0, 1) := by decide +kernel
theorem d_C_before_33 : decode prog_1_method_16_code 33 = .ok (.getfield 38, 3) := by decide +kernel
theorem d_C_before_36 : decode prog_1_method_16_code 36 = .ok (.getfield 211, 3) := by decide +kernel
theorem d_C_before_39 : decode prog_1_method_16_code 39 = .ok (.iload_n 1, 1) := by decide +kernel
theorem d_C_before_40 : decode prog_1_method_16_code 40 = .ok (.iaload, 1) := by decide +kernel
theorem d_C_before_41 : decode prog_1_method_16_code 41 = .ok (.iload_n 2, 1) := by decide +kernel
theorem d_C_before_42 : decode prog_1_method_16_code 42 = .ok (.invokestatic 110, 3) := by decide +kernel
theorem d_C_before_45 : decode prog_1_method_16_code 45 = .ok (.ifCond .eq 7, 3) := by decide +kernel
theorem d_C_before_52 : decode prog_1_method_16_code 52 = .ok (.iconst 0, 1) := by decide +kernel
theorem d_C_before_53 : decode prog_1_method_16_code 53 = .ok (.ireturn, 1) := by decide +kernel
theorem d_C_before_48 : decode prog_1_method_16_code 48 = .ok (.iconst 2, 1) := by decide +kernel
theorem d_C_before_49 : decode prog_1_method_16_code 49 = .ok (.goto 4, 3) := by decide +kernel
theorem d_C_before_30 : decode prog_1_method_16_code 30 = .ok (.iconst 1, 1) := by decide +kernel
theorem d_C_before_31 : decode prog_1_method_16_code 31 = .ok (.ireturn, 1) := by decide +kernel
theorem d_C_before_12 : decode prog_1_method_16_code 12 = .ok (.iconst (-1), 1) := by decide +kernel
theorem d_C_before_13 : decode prog_1_method_16_code 13 = .ok (.ireturn, 1) := by decide +kernel
theorem d_L_firstThatKnew_0 : decode prog_7_method_16_code 0 = .ok (.iconst 0, 1) := by decide +kernel
theorem d_L_firstThatKnew_1 : decode prog_7_method_16_code 1 = .ok (.istore_n 3, 1) := by decide +kernel
theorem d_L_firstThatKnew_2 : decode prog_7_method_16_code 2 = .ok (.iload_n 3, 1) := by decide +kernel
theorem d_L_firstThatKnew_3 : decode prog_7_method_16_code 3 = .ok (.aload_n 0, 1) := by decide +kernel
theorem d_L_firstThatKnew_4 : decode prog_7_method_16_code 4 = .ok (.getfield 57, 3) := by decide +kernel
theorem d_L_firstThatKnew_7 : decode prog_7_method_16_code 7 = .ok (.if_icmp .ge 32, 3) := by decide +kernel
theorem d_L_firstThatKnew_10 : decode prog_7_method_16_code 10 = .ok (.iload_n 2, 1) := by decide +kernel
theorem d_L_firstThatKnew_11 : decode prog_7_method_16_code 11 = .ok (.iload_n 3, 1) := by decide +kernel
theorem d_L_firstThatKnew_12 : decode prog_7_method_16_code 12 = .ok (.invokestatic 68, 3) := by decide +kernel
theorem d_L_firstThatKnew_15 : decode prog_7_method_16_code 15 = .ok (.ifCond .eq 18, 3) := by decide +kernel
theorem d_L_firstThatKnew_33 : decode prog_7_method_16_code 33 = .ok (.iinc 3 1, 3) := by decide +kernel
theorem d_L_firstThatKnew_36 : decode prog_7_method_16_code 36 = .ok (.goto (-34), 3) := by decide +kernel
theorem d_L_firstThatKnew_18 : decode prog_7_method_16_code 18 = .ok (.aload_n 0, 1) := by decide +kernel
theorem d_L_firstThatKnew_19 : decode prog_7_method_16_code 19 = .ok (.getfield 30, 3) := by decide +kernel
theorem d_L_firstThatKnew_22 : decode prog_7_method_16_code 22 = .ok (.iload_n 3, 1) := by decide +kernel
theorem d_L_firstThatKnew_23 : decode prog_7_method_16_code 23 = .ok (.iaload, 1) := by decide +kernel
theorem d_L_firstThatKnew_24 : decode prog_7_method_16_code 24 = .ok (.iload_n 1, 1) := by decide +kernel
theorem d_L_firstThatKnew_25 : decode prog_7_method_16_code 25 = .ok (.invokestatic 68, 3) := by decide +kernel
theorem d_L_firstThatKnew_28 : decode prog_7_method_16_code 28 = .ok (.ifCond .eq 5, 3) := by decide +kernel
theorem d_L_firstThatKnew_31 : decode prog_7_method_16_code 31 = .ok (.iload_n 3, 1) := by decide +kernel
theorem d_L_firstThatKnew_32 : decode prog_7_method_16_code 32 = .ok (.ireturn, 1) := by decide +kernel
theorem d_L_firstThatKnew_39 : decode prog_7_method_16_code 39 = .ok (.iconst (-1), 1) := by decide +kernel
theorem d_L_firstThatKnew_40 : decode prog_7_method_16_code 40 = .ok (.ireturn, 1) := by decide +kernel
theorem d_L_ringsRound_0 : decode prog_7_method_15_code 0 = .ok (.iload_n 1, 1) := by decide +kernel
theorem d_L_ringsRound_1 : decode prog_7_method_15_code 1 = .ok (.invokestatic 72, 3) := by decide +kernel
theorem d_L_ringsRound_4 : decode prog_7_method_15_code 4 = .ok (.istore_n 3, 1) := by decide +kernel
theorem d_L_ringsRound_5 : decode prog_7_method_15_code 5 = .ok (.aload_n 0, 1) := by decide +kernel
theorem d_L_ringsRound_6 : decode prog_7_method_15_code 6 = .ok (.getfield 54, 3) := by decide +kernel
theorem d_L_ringsRound_9 : decode prog_7_method_15_code 9 = .ok (.iconst 0, 1) := by decide +kernel
theorem d_L_ringsRound_10 : decode prog_7_method_15_code 10 = .ok (.iload_n 3, 1) := by decide +kernel
theorem d_L_ringsRound_11 : decode prog_7_method_15_code 11 = .ok (.iastore, 1) := by decide +kernel
theorem d_L_ringsRound_12 : decode prog_7_method_15_code 12 = .ok (.iconst 1, 1) := by decide +kernel
theorem d_L_ringsRound_13 : decode prog_7_method_15_code 13 = .ok (.istore 4, 2) := by decide +kernel
theorem d_L_ringsRound_15 : decode prog_7_method_15_code 15 = .ok (.iload 4, 2) := by decide +kernel
theorem d_L_ringsRound_17 : decode prog_7_method_15_code 17 = .ok (.bipush 30, 2) := by decide +kernel
theorem d_L_ringsRound_19 : decode prog_7_method_15_code 19 = .ok (.if_icmp .ge 64, 3) := by decide +kernel
theorem d_L_ringsRound_22 : decode prog_7_method_15_code 22 = .ok (.aload_n 0, 1) := by decide +kernel
theorem d_L_ringsRound_23 : decode prog_7_method_15_code 23 = .ok (.getfield 54, 3) := by decide +kernel
theorem d_L_ringsRound_26 : decode prog_7_method_15_code 26 = .ok (.iload 4, 2) := by decide +kernel
theorem d_L_ringsRound_28 : decode prog_7_method_15_code 28 = .ok (.aload_n 0, 1) := by decide +kernel
theorem d_L_ringsRound_29 : decode prog_7_method_15_code 29 = .ok (.aload_n 0, 1) := by decide +kernel
theorem d_L_ringsRound_30 : decode prog_7_method_15_code 30 = .ok (.getfield 54, 3) := by decide +kernel
theorem d_L_ringsRound_33 : decode prog_7_method_15_code 33 = .ok (.iload 4, 2) := by decide +kernel
theorem d_L_ringsRound_35 : decode prog_7_method_15_code 35 = .ok (.iconst 1, 1) := by decide +kernel
theorem d_L_ringsRound_36 : decode prog_7_method_15_code 36 = .ok (.isub, 1) := by decide +kernel
theorem d_L_ringsRound_37 : decode prog_7_method_15_code 37 = .ok (.iaload, 1) := by decide +kernel
theorem d_L_ringsRound_38 : decode prog_7_method_15_code 38 = .ok (.aload_n 0, 1) := by decide +kernel
theorem d_L_ringsRound_39 : decode prog_7_method_15_code 39 = .ok (.getfield 30, 3) := by decide +kernel
theorem d_L_ringsRound_42 : decode prog_7_method_15_code 42 = .ok (.invokevirtual 79, 3) := by decide +kernel
theorem d_L_ringsRound_45 : decode prog_7_method_15_code 45 = .ok (.iload_n 3, 1) := by decide +kernel
theorem d_L_ringsRound_46 : decode prog_7_method_15_code 46 = .ok (.iconst (-1), 1) := by decide +kernel
theorem d_L_ringsRound_47 : decode prog_7_method_15_code 47 = .ok (.ixor, 1) := by decide +kernel
theorem d_L_ringsRound_48 : decode prog_7_method_15_code 48 = .ok (.iand, 1) := by decide +kernel
theorem d_L_ringsRound_49 : decode prog_7_method_15_code 49 = .ok (.iastore, 1) := by decide +kernel
theorem d_L_ringsRound_50 : decode prog_7_method_15_code 50 = .ok (.iload_n 3, 1) := by decide +kernel
theorem d_L_ringsRound_51 : decode prog_7_method_15_code 51 = .ok (.aload_n 0, 1) := by decide +kernel
theorem d_L_ringsRound_52 : decode prog_7_method_15_code 52 = .ok (.getfield 54, 3) := by decide +kernel
theorem d_L_ringsRound_55 : decode prog_7_method_15_code 55 = .ok (.iload 4, 2) := by decide +kernel
theorem d_L_ringsRound_57 : decode prog_7_method_15_code 57 = .ok (.iaload, 1) := by decide +kernel
theorem d_L_ringsRound_58 : decode prog_7_method_15_code 58 = .ok (.ior, 1) := by decide +kernel
theorem d_L_ringsRound_59 : decode prog_7_method_15_code 59 = .ok (.istore_n 3, 1) := by decide +kernel
theorem d_L_ringsRound_60 : decode prog_7_method_15_code 60 = .ok (.aload_n 0, 1) := by decide +kernel
theorem d_L_ringsRound_61 : decode prog_7_method_15_code 61 = .ok (.getfield 54, 3) := by decide +kernel
theorem d_L_ringsRound_64 : decode prog_7_method_15_code 64 = .ok (.iload 4, 2) := by decide +kernel
theorem d_L_ringsRound_66 : decode prog_7_method_15_code 66 = .ok (.iaload, 1) := by decide +kernel
theorem d_L_ringsRound_67 : decode prog_7_method_15_code 67 = .ok (.iload_n 2, 1) := by decide +kernel
theorem d_L_ringsRound_68 : decode prog_7_method_15_code 68 = .ok (.invokestatic 68, 3) := by decide +kernel
theorem d_L_ringsRound_71 : decode prog_7_method_15_code 71 = .ok (.ifCond .eq 6, 3) := by decide +kernel
theorem d_L_ringsRound_77 : decode prog_7_method_15_code 77 = .ok (.iinc 4 1, 3) := by decide +kernel
theorem d_L_ringsRound_80 : decode prog_7_method_15_code 80 = .ok (.goto (-65), 3) := by decide +kernel
theorem d_L_ringsRound_74 : decode prog_7_method_15_code 74 = .ok (.iload 4, 2) := by decide +kernel
theorem d_L_ringsRound_76 : decode prog_7_method_15_code 76 = .ok (.ireturn, 1) := by decide +kernel
theorem d_L_ringsRound_83 : decode prog_7_method_15_code 83 = .ok (.iconst (-1), 1) := by decide +kernel
theorem d_L_ringsRound_84 : decode prog_7_method_15_code 84 = .ok (.ireturn, 1) := by decide +kernel
theorem d_L_onShortestWay_0 : decode prog_7_method_14_code 0 = .ok (.aload_n 0, 1) := by decide +kernel
theorem d_L_onShortestWay_1 : decode prog_7_method_14_code 1 = .ok (.iload_n 2, 1) := by decide +kernel
theorem d_L_onShortestWay_2 : decode prog_7_method_14_code 2 = .ok (.iload_n 1, 1) := by decide +kernel
theorem d_L_onShortestWay_3 : decode prog_7_method_14_code 3 = .ok (.invokevirtual 107, 3) := by decide +kernel
theorem d_L_onShortestWay_6 : decode prog_7_method_14_code 6 = .ok (.istore 4, 2) := by decide +kernel
theorem d_L_onShortestWay_8 : decode prog_7_method_14_code 8 = .ok (.iload 4, 2) := by decide +kernel
theorem d_L_onShortestWay_10 : decode prog_7_method_14_code 10 = .ok (.iconst (-1), 1) := by decide +kernel
theorem d_L_onShortestWay_11 : decode prog_7_method_14_code 11 = .ok (.if_icmp .eq 9, 3) := by decide +kernel
theorem d_L_onShortestWay_20 : decode prog_7_method_14_code 20 = .ok (.iconst (-1), 1) := by decide +kernel
theorem d_L_onShortestWay_21 : decode prog_7_method_14_code 21 = .ok (.ireturn, 1) := by decide +kernel
theorem d_L_onShortestWay_14 : decode prog_7_method_14_code 14 = .ok (.iload_n 3, 1) := by decide +kernel
theorem d_L_onShortestWay_15 : decode prog_7_method_14_code 15 = .ok (.iload 4, 2) := by decide +kernel
theorem d_L_onShortestWay_17 : decode prog_7_method_14_code 17 = .ok (.if_icmp .le 5, 3) := by decide +kernel
theorem d_L_onShortestWay_22 : decode prog_7_method_14_code 22 = .ok (.iload_n 1, 1) := by decide +kernel
theorem d_L_onShortestWay_23 : decode prog_7_method_14_code 23 = .ok (.istore 5, 2) := by decide +kernel
theorem d_L_onShortestWay_25 : decode prog_7_method_14_code 25 = .ok (.iconst 1, 1) := by decide +kernel
theorem d_L_onShortestWay_26 : decode prog_7_method_14_code 26 = .ok (.istore 6, 2) := by decide +kernel
theorem d_L_onShortestWay_28 : decode prog_7_method_14_code 28 = .ok (.iload 6, 2) := by decide +kernel
theorem d_L_onShortestWay_30 : decode prog_7_method_14_code 30 = .ok (.iload_n 3, 1) := by decide +kernel
theorem d_L_onShortestWay_31 : decode prog_7_method_14_code 31 = .ok (.if_icmp .gt 33, 3) := by decide +kernel
theorem d_L_onShortestWay_34 : decode prog_7_method_14_code 34 = .ok (.iload 5, 2) := by decide +kernel
theorem d_L_onShortestWay_36 : decode prog_7_method_14_code 36 = .ok (.iconst (-1), 1) := by decide +kernel
theorem d_L_onShortestWay_37 : decode prog_7_method_14_code 37 = .ok (.if_icmp .eq 27, 3) := by decide +kernel
theorem d_L_onShortestWay_40 : decode prog_7_method_14_code 40 = .ok (.aload_n 0, 1) := by decide +kernel
theorem d_L_onShortestWay_41 : decode prog_7_method_14_code 41 = .ok (.iload 5, 2) := by decide +kernel
theorem d_L_onShortestWay_43 : decode prog_7_method_14_code 43 = .ok (.aload_n 0, 1) := by decide +kernel
theorem d_L_onShortestWay_44 : decode prog_7_method_14_code 44 = .ok (.getfield 54, 3) := by decide +kernel
theorem d_L_onShortestWay_47 : decode prog_7_method_14_code 47 = .ok (.iload 4, 2) := by decide +kernel
theorem d_L_onShortestWay_49 : decode prog_7_method_14_code 49 = .ok (.iload 6, 2) := by decide +kernel
theorem d_L_onShortestWay_51 : decode prog_7_method_14_code 51 = .ok (.isub, 1) := by decide +kernel
theorem d_L_onShortestWay_52 : decode prog_7_method_14_code 52 = .ok (.iaload, 1) := by decide +kernel
theorem d_L_onShortestWay_53 : decode prog_7_method_14_code 53 = .ok (.invokevirtual 110, 3) := by decide +kernel
theorem d_L_onShortestWay_56 : decode prog_7_method_14_code 56 = .ok (.istore 5, 2) := by decide +kernel
theorem d_L_onShortestWay_58 : decode prog_7_method_14_code 58 = .ok (.iinc 6 1, 3) := by decide +kernel
theorem d_L_onShortestWay_61 : decode prog_7_method_14_code 61 = .ok (.goto (-33), 3) := by decide +kernel
theorem d_L_onShortestWay_64 : decode prog_7_method_14_code 64 = .ok (.iload 5, 2) := by decide +kernel
theorem d_L_onShortestWay_66 : decode prog_7_method_14_code 66 = .ok (.ireturn, 1) := by decide +kernel
theorem d_C_path_0 : decode prog_1_method_17_code 0 = .ok (.aload_n 0, 1) := by decide +kernel
theorem d_C_path_1 : decode prog_1_method_17_code 1 = .ok (.getfield 38, 3) := by decide +kernel
theorem d_C_path_4 : decode prog_1_method_17_code 4 = .ok (.iload_n 1, 1) := by decide +kernel
theorem d_C_path_5 : decode prog_1_method_17_code 5 = .ok (.iload_n 2, 1) := by decide +kernel
theorem d_C_path_6 : decode prog_1_method_17_code 6 = .ok (.invokevirtual 208, 3) := by decide +kernel
theorem d_C_path_9 : decode prog_1_method_17_code 9 = .ok (.ifCond .eq 23, 3) := by decide +kernel
theorem d_C_path_32 : decode prog_1_method_17_code 32 = .ok (.iconst (-1), 1) := by decide +kernel
theorem d_C_path_33 : decode prog_1_method_17_code 33 = .ok (.ireturn, 1) := by decide +kernel
theorem d_C_path_12 : decode prog_1_method_17_code 12 = .ok (.aload_n 0, 1) := by decide +kernel
theorem d_C_path_13 : decode prog_1_method_17_code 13 = .ok (.getfield 38, 3) := by decide +kernel
theorem d_C_path_16 : decode prog_1_method_17_code 16 = .ok (.getfield 211, 3) := by decide +kernel
theorem d_C_path_19 : decode prog_1_method_17_code 19 = .ok (.iload_n 2, 1) := by decide +kernel
theorem d_C_path_20 : decode prog_1_method_17_code 20 = .ok (.iaload, 1) := by decide +kernel
theorem d_C_path_21 : decode prog_1_method_17_code 21 = .ok (.iload_n 1, 1) := by decide +kernel
theorem d_C_path_22 : decode prog_1_method_17_code 22 = .ok (.invokestatic 110, 3) := by decide +kernel
theorem d_C_path_25 : decode prog_1_method_17_code 25 = .ok (.ifCond .eq 7, 3) := by decide +kernel
theorem d_C_path_28 : decode prog_1_method_17_code 28 = .ok (.iload_n 3, 1) := by decide +kernel
theorem d_C_path_29 : decode prog_1_method_17_code 29 = .ok (.ifCond .ge 5, 3) := by decide +kernel
theorem d_C_path_34 : decode prog_1_method_17_code 34 = .ok (.aload_n 0, 1) := by decide +kernel
theorem d_C_path_35 : decode prog_1_method_17_code 35 = .ok (.getfield 38, 3) := by decide +kernel
theorem d_C_path_38 : decode prog_1_method_17_code 38 = .ok (.iload_n 1, 1) := by decide +kernel
theorem d_C_path_39 : decode prog_1_method_17_code 39 = .ok (.iload_n 2, 1) := by decide +kernel
theorem d_C_path_40 : decode prog_1_method_17_code 40 = .ok (.iload_n 3, 1) := by decide +kernel
theorem d_C_path_41 : decode prog_1_method_17_code 41 = .ok (.invokevirtual 214, 3) := by decide +kernel
theorem d_C_path_44 : decode prog_1_method_17_code 44 = .ok (.ireturn, 1) := by decide +kernel
theorem d_C_sum_0 : decode prog_1_method_18_code 0 = .ok (.aload_n 0, 1) := by decide +kernel
theorem d_C_sum_1 : decode prog_1_method_18_code 1 = .ok (.getfield 38, 3) := by decide +kernel
theorem d_C_sum_4 : decode prog_1_method_18_code 4 = .ok (.iload_n 1, 1) := by decide +kernel
theorem d_C_sum_5 : decode prog_1_method_18_code 5 = .ok (.invokevirtual 132, 3) := by decide +kernel
theorem d_C_sum_8 : decode prog_1_method_18_code 8 = .ok (.ifCond .eq 15, 3) := by decide +kernel
theorem d_C_sum_23 : decode prog_1_method_18_code 23 = .ok (.iconst (-1), 1) := by decide +kernel
theorem d_C_sum_24 : decode prog_1_method_18_code 24 = .ok (.ireturn, 1) := by decide +kernel
theorem d_C_sum_11 : decode prog_1_method_18_code 11 = .ok (.aload_n 0, 1) := by decide +kernel
theorem d_C_sum_12 : decode prog_1_method_18_code 12 = .ok (.getfield 38, 3) := by decide +kernel
theorem d_C_sum_15 : decode prog_1_method_18_code 15 = .ok (.getfield 218, 3) := by decide +kernel
theorem d_C_sum_18 : decode prog_1_method_18_code 18 = .ok (.iload_n 1, 1) := by decide +kernel
theorem d_C_sum_19 : decode prog_1_method_18_code 19 = .ok (.iaload, 1) := by decide +kernel
theorem d_C_sum_20 : decode prog_1_method_18_code 20 = .ok (.goto 4, 3) := by decide +kernel
theorem d_L_numberFor_0 : decode prog_7_method_10_code 0 = .ok (.aload_n 0, 1) := by decide +kernel
theorem d_L_numberFor_1 : decode prog_7_method_10_code 1 = .ok (.getfield 33, 3) := by decide +kernel
theorem d_L_numberFor_4 : decode prog_7_method_10_code 4 = .ok (.iload_n 1, 1) := by decide +kernel
theorem d_L_numberFor_5 : decode prog_7_method_10_code 5 = .ok (.iaload, 1) := by decide +kernel
theorem d_L_numberFor_6 : decode prog_7_method_10_code 6 = .ok (.iload_n 1, 1) := by decide +kernel
theorem d_L_numberFor_7 : decode prog_7_method_10_code 7 = .ok (.invokestatic 72, 3) := by decide +kernel
theorem d_L_numberFor_10 : decode prog_7_method_10_code 10 = .ok (.ior, 1) := by decide +kernel
theorem d_L_numberFor_11 : decode prog_7_method_10_code 11 = .ok (.aload_n 0, 1) := by decide +kernel
theorem d_L_numberFor_12 : decode prog_7_method_10_code 12 = .ok (.getfield 48, 3) := by decide +kernel
theorem d_L_numberFor_15 : decode prog_7_method_10_code 15 = .ok (.iload_n 2, 1) := by decide +kernel
theorem d_L_numberFor_16 : decode prog_7_method_10_code 16 = .ok (.iaload, 1) := by decide +kernel
theorem d_L_numberFor_17 : decode prog_7_method_10_code 17 = .ok (.iand, 1) := by decide +kernel
theorem d_L_numberFor_18 : decode prog_7_method_10_code 18 = .ok (.invokestatic 95, 3) := by decide +kernel
theorem d_L_numberFor_21 : decode prog_7_method_10_code 21 = .ok (.ireturn, 1) := by decide +kernel
theorem d_C_number_0 : decode prog_1_method_19_code 0 = .ok (.aload_n 0, 1) := by decide +kernel
theorem d_C_number_1 : decode prog_1_method_19_code 1 = .ok (.getfield 38, 3) := by decide +kernel
theorem d_C_number_4 : decode prog_1_method_19_code 4 = .ok (.iload_n 1, 1) := by decide +kernel
theorem d_C_number_5 : decode prog_1_method_19_code 5 = .ok (.invokevirtual 132, 3) := by decide +kernel
theorem d_C_number_8 : decode prog_1_method_19_code 8 = .ok (.ifCond .eq 10, 3) := by decide +kernel
theorem d_C_number_18 : decode prog_1_method_19_code 18 = .ok (.iconst (-1), 1) := by decide +kernel
theorem d_C_number_19 : decode prog_1_method_19_code 19 = .ok (.ireturn, 1) := by decide +kernel
theorem d_C_number_11 : decode prog_1_method_19_code 11 = .ok (.iload_n 2, 1) := by decide +kernel
theorem d_C_number_12 : decode prog_1_method_19_code 12 = .ok (.invokestatic 102, 3) := by decide +kernel
theorem d_C_number_15 : decode prog_1_method_19_code 15 = .ok (.ifCond .ne 5, 3) := by decide +kernel
theorem d_C_number_20 : decode prog_1_method_19_code 20 = .ok (.aload_n 0, 1) := by decide +kernel
theorem d_C_number_21 : decode prog_1_method_19_code 21 = .ok (.getfield 38, 3) := by decide +kernel
theorem d_C_number_24 : decode prog_1_method_19_code 24 = .ok (.iload_n 1, 1) := by decide +kernel
theorem d_C_number_25 : decode prog_1_method_19_code 25 = .ok (.iload_n 2, 1) := by decide +kernel
theorem d_C_number_26 : decode prog_1_method_19_code 26 = .ok (.invokevirtual 221, 3) := by decide +kernel
theorem d_C_number_29 : decode prog_1_method_19_code 29 = .ok (.ireturn, 1) := by decide +kernel
theorem d_L_numberOfNumber_0 : decode prog_7_method_11_code 0 = .ok (.iconst 0, 1) := by decide +kernel
theorem d_L_numberOfNumber_1 : decode prog_7_method_11_code 1 = .ok (.istore 4, 2) := by decide +kernel
theorem d_L_numberOfNumber_3 : decode prog_7_method_11_code 3 = .ok (.aload_n 0, 1) := by decide +kernel
theorem d_L_numberOfNumber_4 : decode prog_7_method_11_code 4 = .ok (.getfield 33, 3) := by decide +kernel
theorem d_L_numberOfNumber_7 : decode prog_7_method_11_code 7 = .ok (.iload_n 1, 1) := by decide +kernel
theorem d_L_numberOfNumber_8 : decode prog_7_method_11_code 8 = .ok (.iaload, 1) := by decide +kernel
theorem d_L_numberOfNumber_9 : decode prog_7_method_11_code 9 = .ok (.iload_n 1, 1) := by decide +kernel
theorem d_L_numberOfNumber_10 : decode prog_7_method_11_code 10 = .ok (.invokestatic 72, 3) := by decide +kernel
theorem d_L_numberOfNumber_13 : decode prog_7_method_11_code 13 = .ok (.ior, 1) := by decide +kernel
theorem d_L_numberOfNumber_14 : decode prog_7_method_11_code 14 = .ok (.aload_n 0, 1) := by decide +kernel
theorem d_L_numberOfNumber_15 : decode prog_7_method_11_code 15 = .ok (.getfield 48, 3) := by decide +kernel
theorem d_L_numberOfNumber_18 : decode prog_7_method_11_code 18 = .ok (.iload_n 3, 1) := by decide +kernel
theorem d_L_numberOfNumber_19 : decode prog_7_method_11_code 19 = .ok (.iaload, 1) := by decide +kernel
theorem d_L_numberOfNumber_20 : decode prog_7_method_11_code 20 = .ok (.iand, 1) := by decide +kernel
theorem d_L_numberOfNumber_21 : decode prog_7_method_11_code 21 = .ok (.istore 5, 2) := by decide +kernel
theorem d_L_numberOfNumber_23 : decode prog_7_method_11_code 23 = .ok (.iconst 0, 1) := by decide +kernel
theorem d_L_numberOfNumber_24 : decode prog_7_method_11_code 24 = .ok (.istore 6, 2) := by decide +kernel
theorem d_L_numberOfNumber_26 : decode prog_7_method_11_code 26 = .ok (.iload 6, 2) := by decide +kernel
theorem d_L_numberOfNumber_28 : decode prog_7_method_11_code 28 = .ok (.iload_n 1, 1) := by decide +kernel
theorem d_L_numberOfNumber_29 : decode prog_7_method_11_code 29 = .ok (.if_icmp .gt 33, 3) := by decide +kernel
theorem d_L_numberOfNumber_32 : decode prog_7_method_11_code 32 = .ok (.iload 5, 2) := by decide +kernel
theorem d_L_numberOfNumber_34 : decode prog_7_method_11_code 34 = .ok (.iload 6, 2) := by decide +kernel
theorem d_L_numberOfNumber_36 : decode prog_7_method_11_code 36 = .ok (.invokestatic 68, 3) := by decide +kernel
theorem d_L_numberOfNumber_39 : decode prog_7_method_11_code 39 = .ok (.ifCond .eq 17, 3) := by decide +kernel
theorem d_L_numberOfNumber_56 : decode prog_7_method_11_code 56 = .ok (.iinc 6 1, 3) := by decide +kernel
theorem d_L_numberOfNumber_59 : decode prog_7_method_11_code 59 = .ok (.goto (-33), 3) := by decide +kernel
theorem d_L_numberOfNumber_42 : decode prog_7_method_11_code 42 = .ok (.iload 4, 2) := by decide +kernel
theorem d_L_numberOfNumber_44 : decode prog_7_method_11_code 44 = .ok (.aload_n 0, 1) := by decide +kernel
theorem d_L_numberOfNumber_45 : decode prog_7_method_11_code 45 = .ok (.iload 6, 2) := by decide +kernel
theorem d_L_numberOfNumber_47 : decode prog_7_method_11_code 47 = .ok (.iload_n 2, 1) := by decide +kernel
theorem d_L_numberOfNumber_48 : decode prog_7_method_11_code 48 = .ok (.invokevirtual 100, 3) := by decide +kernel
theorem d_L_numberOfNumber_51 : decode prog_7_method_11_code 51 = .ok (.invokestatic 89, 3) := by decide +kernel
theorem d_L_numberOfNumber_54 : decode prog_7_method_11_code 54 = .ok (.istore 4, 2) := by decide +kernel
theorem d_L_numberOfNumber_62 : decode prog_7_method_11_code 62 = .ok (.iload 4, 2) := by decide +kernel
theorem d_L_numberOfNumber_64 : decode prog_7_method_11_code 64 = .ok (.ireturn, 1) := by decide +kernel
theorem d_C_pair_0 : decode prog_1_method_20_code 0 = .ok (.aload_n 0, 1) := by decide +kernel
theorem d_C_pair_1 : decode prog_1_method_20_code 1 = .ok (.getfield 38, 3) := by decide +kernel
theorem d_C_pair_4 : decode prog_1_method_20_code 4 = .ok (.iload_n 1, 1) := by decide +kernel
theorem d_C_pair_5 : decode prog_1_method_20_code 5 = .ok (.invokevirtual 132, 3) := by decide +kernel
theorem d_C_pair_8 : decode prog_1_method_20_code 8 = .ok (.ifCond .eq 17, 3) := by decide +kernel
theorem d_C_pair_25 : decode prog_1_method_20_code 25 = .ok (.iconst (-1), 1) := by decide +kernel
theorem d_C_pair_26 : decode prog_1_method_20_code 26 = .ok (.ireturn, 1) := by decide +kernel
theorem d_C_pair_11 : decode prog_1_method_20_code 11 = .ok (.iload_n 2, 1) := by decide +kernel
theorem d_C_pair_12 : decode prog_1_method_20_code 12 = .ok (.invokestatic 102, 3) := by decide +kernel
theorem d_C_pair_15 : decode prog_1_method_20_code 15 = .ok (.ifCond .eq 10, 3) := by decide +kernel
theorem d_C_pair_18 : decode prog_1_method_20_code 18 = .ok (.iload_n 3, 1) := by decide +kernel
theorem d_C_pair_19 : decode prog_1_method_20_code 19 = .ok (.invokestatic 102, 3) := by decide +kernel
theorem d_C_pair_22 : decode prog_1_method_20_code 22 = .ok (.ifCond .ne 5, 3) := by decide +kernel
theorem d_C_pair_27 : decode prog_1_method_20_code 27 = .ok (.aload_n 0, 1) := by decide +kernel
theorem d_C_pair_28 : decode prog_1_method_20_code 28 = .ok (.getfield 38, 3) := by decide +kernel
theorem d_C_pair_31 : decode prog_1_method_20_code 31 = .ok (.iload_n 1, 1) := by decide +kernel
theorem d_C_pair_32 : decode prog_1_method_20_code 32 = .ok (.iload_n 2, 1) := by decide +kernel
theorem d_C_pair_33 : decode prog_1_method_20_code 33 = .ok (.iload_n 3, 1) := by decide +kernel
theorem d_C_pair_34 : decode prog_1_method_20_code 34 = .ok (.invokevirtual 224, 3) := by decide +kernel
theorem d_C_pair_37 : decode prog_1_method_20_code 37 = .ok (.ireturn, 1) := by decide +kernel
theorem d_C_list_0 : decode prog_1_method_21_code 0 = .ok (.aload_n 0, 1) := by decide +kernel
theorem d_C_list_1 : decode prog_1_method_21_code 1 = .ok (.getfield 38, 3) := by decide +kernel
theorem d_C_list_4 : decode prog_1_method_21_code 4 = .ok (.iload_n 1, 1) := by decide +kernel
theorem d_C_list_5 : decode prog_1_method_21_code 5 = .ok (.invokevirtual 132, 3) := by decide +kernel
theorem d_C_list_8 : decode prog_1_method_21_code 8 = .ok (.ifCond .eq 15, 3) := by decide +kernel
theorem d_C_list_23 : decode prog_1_method_21_code 23 = .ok (.iconst (-1), 1) := by decide +kernel
theorem d_C_list_24 : decode prog_1_method_21_code 24 = .ok (.ireturn, 1) := by decide +kernel
theorem d_C_list_11 : decode prog_1_method_21_code 11 = .ok (.aload_n 0, 1) := by decide +kernel
theorem d_C_list_12 : decode prog_1_method_21_code 12 = .ok (.getfield 38, 3) := by decide +kernel
theorem d_C_list_15 : decode prog_1_method_21_code 15 = .ok (.getfield 227, 3) := by decide +kernel
theorem d_C_list_18 : decode prog_1_method_21_code 18 = .ok (.iload_n 1, 1) := by decide +kernel
theorem d_C_list_19 : decode prog_1_method_21_code 19 = .ok (.iaload, 1) := by decide +kernel
theorem d_C_list_20 : decode prog_1_method_21_code 20 = .ok (.goto 4, 3) := by decide +kernel
theorem d_C_isBearing_0 : decode prog_1_method_43_code 0 = .ok (.iload_n 0, 1) := by decide +kernel
theorem d_C_isBearing_1 : decode prog_1_method_43_code 1 = .ok (.ifCond .lt 12, 3) := by decide +kernel
theorem d_C_isBearing_13 : decode prog_1_method_43_code 13 = .ok (.iconst 0, 1) := by decide +kernel
theorem d_C_isBearing_14 : decode prog_1_method_43_code 14 = .ok (.ireturn, 1) := by decide +kernel
theorem d_C_isBearing_4 : decode prog_1_method_43_code 4 = .ok (.iload_n 0, 1) := by decide +kernel
theorem d_C_isBearing_5 : decode prog_1_method_43_code 5 = .ok (.iconst 3, 1) := by decide +kernel
theorem d_C_isBearing_6 : decode prog_1_method_43_code 6 = .ok (.if_icmp .gt 7, 3) := by decide +kernel
theorem d_C_isBearing_9 : decode prog_1_method_43_code 9 = .ok (.iconst 1, 1) := by decide +kernel
theorem d_C_isBearing_10 : decode prog_1_method_43_code 10 = .ok (.goto 4, 3) := by decide +kernel
theorem d_L_isTold_0 : decode prog_7_method_12_code 0 = .ok (.iload_n 3, 1) := by decide +kernel
theorem d_L_isTold_1 : decode prog_7_method_12_code 1 = .ok (.tableswitch 90 0 2 #[27, 38, 59], 27) := by decide +kernel
theorem d_L_isTold_91 : decode prog_7_method_12_code 91 = .ok (.aload_n 0, 1) := by decide +kernel
theorem d_L_isTold_92 : decode prog_7_method_12_code 92 = .ok (.getfield 42, 3) := by decide +kernel
theorem d_L_isTold_95 : decode prog_7_method_12_code 95 = .ok (.iload_n 2, 1) := by decide +kernel
theorem d_L_isTold_96 : decode prog_7_method_12_code 96 = .ok (.iaload, 1) := by decide +kernel
theorem d_L_isTold_97 : decode prog_7_method_12_code 97 = .ok (.iload_n 1, 1) := by decide +kernel
theorem d_L_isTold_98 : decode prog_7_method_12_code 98 = .ok (.invokestatic 68, 3) := by decide +kernel
theorem d_L_isTold_101 : decode prog_7_method_12_code 101 = .ok (.ireturn, 1) := by decide +kernel
theorem d_L_isTold_60 : decode prog_7_method_12_code 60 = .ok (.aload_n 0, 1) := by decide +kernel
theorem d_L_isTold_61 : decode prog_7_method_12_code 61 = .ok (.iload_n 2, 1) := by decide +kernel
theorem d_L_isTold_62 : decode prog_7_method_12_code 62 = .ok (.aload_n 0, 1) := by decide +kernel
theorem d_L_isTold_63 : decode prog_7_method_12_code 63 = .ok (.getfield 9, 3) := by decide +kernel
theorem d_L_isTold_66 : decode prog_7_method_12_code 66 = .ok (.iload_n 1, 1) := by decide +kernel
theorem d_L_isTold_67 : decode prog_7_method_12_code 67 = .ok (.iaload, 1) := by decide +kernel
theorem d_L_isTold_68 : decode prog_7_method_12_code 68 = .ok (.invokevirtual 100, 3) := by decide +kernel
theorem d_L_isTold_71 : decode prog_7_method_12_code 71 = .ok (.aload_n 0, 1) := by decide +kernel
theorem d_L_isTold_72 : decode prog_7_method_12_code 72 = .ok (.iload_n 1, 1) := by decide +kernel
theorem d_L_isTold_73 : decode prog_7_method_12_code 73 = .ok (.aload_n 0, 1) := by decide +kernel
theorem d_L_isTold_74 : decode prog_7_method_12_code 74 = .ok (.getfield 9, 3) := by decide +kernel
theorem d_L_isTold_77 : decode prog_7_method_12_code 77 = .ok (.iload_n 1, 1) := by decide +kernel
theorem d_L_isTold_78 : decode prog_7_method_12_code 78 = .ok (.iaload, 1) := by decide +kernel
theorem d_L_isTold_79 : decode prog_7_method_12_code 79 = .ok (.invokevirtual 100, 3) := by decide +kernel
theorem d_L_isTold_82 : decode prog_7_method_12_code 82 = .ok (.if_icmp .lt 7, 3) := by decide +kernel
theorem d_L_isTold_89 : decode prog_7_method_12_code 89 = .ok (.iconst 0, 1) := by decide +kernel
theorem d_L_isTold_90 : decode prog_7_method_12_code 90 = .ok (.ireturn, 1) := by decide +kernel
theorem d_L_isTold_85 : decode prog_7_method_12_code 85 = .ok (.iconst 1, 1) := by decide +kernel
theorem d_L_isTold_86 : decode prog_7_method_12_code 86 = .ok (.goto 4, 3) := by decide +kernel
theorem d_L_isTold_39 : decode prog_7_method_12_code 39 = .ok (.aload_n 0, 1) := by decide +kernel
theorem d_L_isTold_40 : decode prog_7_method_12_code 40 = .ok (.getfield 45, 3) := by decide +kernel
theorem d_L_isTold_43 : decode prog_7_method_12_code 43 = .ok (.iload_n 1, 1) := by decide +kernel
theorem d_L_isTold_44 : decode prog_7_method_12_code 44 = .ok (.iaload, 1) := by decide +kernel
theorem d_L_isTold_45 : decode prog_7_method_12_code 45 = .ok (.aload_n 0, 1) := by decide +kernel
theorem d_L_isTold_46 : decode prog_7_method_12_code 46 = .ok (.getfield 45, 3) := by decide +kernel
theorem d_L_isTold_49 : decode prog_7_method_12_code 49 = .ok (.iload_n 2, 1) := by decide +kernel
theorem d_L_isTold_50 : decode prog_7_method_12_code 50 = .ok (.iaload, 1) := by decide +kernel
theorem d_L_isTold_51 : decode prog_7_method_12_code 51 = .ok (.if_icmp .ge 7, 3) := by decide +kernel
theorem d_L_isTold_58 : decode prog_7_method_12_code 58 = .ok (.iconst 0, 1) := by decide +kernel
theorem d_L_isTold_59 : decode prog_7_method_12_code 59 = .ok (.ireturn, 1) := by decide +kernel
theorem d_L_isTold_54 : decode prog_7_method_12_code 54 = .ok (.iconst 1, 1) := by decide +kernel
theorem d_L_isTold_55 : decode prog_7_method_12_code 55 = .ok (.goto 4, 3) := by decide +kernel
theorem d_L_isTold_28 : decode prog_7_method_12_code 28 = .ok (.aload_n 0, 1) := by decide +kernel
theorem d_L_isTold_29 : decode prog_7_method_12_code 29 = .ok (.getfield 36, 3) := by decide +kernel
theorem d_L_isTold_32 : decode prog_7_method_12_code 32 = .ok (.iload_n 2, 1) := by decide +kernel
theorem d_L_isTold_33 : decode prog_7_method_12_code 33 = .ok (.iaload, 1) := by decide +kernel
theorem d_L_isTold_34 : decode prog_7_method_12_code 34 = .ok (.iload_n 1, 1) := by decide +kernel
theorem d_L_isTold_35 : decode prog_7_method_12_code 35 = .ok (.invokestatic 68, 3) := by decide +kernel
theorem d_L_isTold_38 : decode prog_7_method_12_code 38 = .ok (.ireturn, 1) := by decide +kernel
theorem d_C_tells_0 : decode prog_1_method_22_code 0 = .ok (.aload_n 0, 1) := by decide +kernel
theorem d_C_tells_1 : decode prog_1_method_22_code 1 = .ok (.getfield 38, 3) := by decide +kernel
theorem d_C_tells_4 : decode prog_1_method_22_code 4 = .ok (.iload_n 1, 1) := by decide +kernel
theorem d_C_tells_5 : decode prog_1_method_22_code 5 = .ok (.iload_n 2, 1) := by decide +kernel
theorem d_C_tells_6 : decode prog_1_method_22_code 6 = .ok (.invokevirtual 208, 3) := by decide +kernel
theorem d_C_tells_9 : decode prog_1_method_22_code 9 = .ok (.ifCond .eq 10, 3) := by decide +kernel
theorem d_C_tells_19 : decode prog_1_method_22_code 19 = .ok (.iconst (-1), 1) := by decide +kernel
theorem d_C_tells_20 : decode prog_1_method_22_code 20 = .ok (.ireturn, 1) := by decide +kernel
theorem d_C_tells_12 : decode prog_1_method_22_code 12 = .ok (.iload_n 3, 1) := by decide +kernel
theorem d_C_tells_13 : decode prog_1_method_22_code 13 = .ok (.invokestatic 230, 3) := by decide +kernel
theorem d_C_tells_16 : decode prog_1_method_22_code 16 = .ok (.ifCond .ne 5, 3) := by decide +kernel
theorem d_C_tells_21 : decode prog_1_method_22_code 21 = .ok (.aload_n 0, 1) := by decide +kernel
theorem d_C_tells_22 : decode prog_1_method_22_code 22 = .ok (.getfield 38, 3) := by decide +kernel
theorem d_C_tells_25 : decode prog_1_method_22_code 25 = .ok (.iload_n 1, 1) := by decide +kernel
theorem d_C_tells_26 : decode prog_1_method_22_code 26 = .ok (.iload_n 2, 1) := by decide +kernel
theorem d_C_tells_27 : decode prog_1_method_22_code 27 = .ok (.iload_n 3, 1) := by decide +kernel
theorem d_C_tells_28 : decode prog_1_method_22_code 28 = .ok (.invokevirtual 233, 3) := by decide +kernel
theorem d_C_tells_31 : decode prog_1_method_22_code 31 = .ok (.invokestatic 237, 3) := by decide +kernel
theorem d_C_tells_34 : decode prog_1_method_22_code 34 = .ok (.ireturn, 1) := by decide +kernel
theorem d_L_toldWrongly_0 : decode prog_7_method_13_code 0 = .ok (.iconst 0, 1) := by decide +kernel
theorem d_L_toldWrongly_1 : decode prog_7_method_13_code 1 = .ok (.istore_n 2, 1) := by decide +kernel
theorem d_L_toldWrongly_2 : decode prog_7_method_13_code 2 = .ok (.iconst 0, 1) := by decide +kernel
theorem d_L_toldWrongly_3 : decode prog_7_method_13_code 3 = .ok (.istore_n 3, 1) := by decide +kernel
theorem d_L_toldWrongly_4 : decode prog_7_method_13_code 4 = .ok (.iload_n 3, 1) := by decide +kernel
theorem d_L_toldWrongly_5 : decode prog_7_method_13_code 5 = .ok (.aload_n 0, 1) := by decide +kernel
theorem d_L_toldWrongly_6 : decode prog_7_method_13_code 6 = .ok (.getfield 57, 3) := by decide +kernel
theorem d_L_toldWrongly_9 : decode prog_7_method_13_code 9 = .ok (.if_icmp .ge 58, 3) := by decide +kernel
theorem d_L_toldWrongly_12 : decode prog_7_method_13_code 12 = .ok (.iconst 0, 1) := by decide +kernel
theorem d_L_toldWrongly_13 : decode prog_7_method_13_code 13 = .ok (.istore 4, 2) := by decide +kernel
theorem d_L_toldWrongly_15 : decode prog_7_method_13_code 15 = .ok (.iload 4, 2) := by decide +kernel
theorem d_L_toldWrongly_17 : decode prog_7_method_13_code 17 = .ok (.aload_n 0, 1) := by decide +kernel
theorem d_L_toldWrongly_18 : decode prog_7_method_13_code 18 = .ok (.getfield 57, 3) := by decide +kernel
theorem d_L_toldWrongly_21 : decode prog_7_method_13_code 21 = .ok (.if_icmp .ge 40, 3) := by decide +kernel
theorem d_L_toldWrongly_24 : decode prog_7_method_13_code 24 = .ok (.iload_n 3, 1) := by decide +kernel
theorem d_L_toldWrongly_25 : decode prog_7_method_13_code 25 = .ok (.iload 4, 2) := by decide +kernel
theorem d_L_toldWrongly_27 : decode prog_7_method_13_code 27 = .ok (.if_icmp .eq 28, 3) := by decide +kernel
theorem d_L_toldWrongly_55 : decode prog_7_method_13_code 55 = .ok (.iinc 4 1, 3) := by decide +kernel
theorem d_L_toldWrongly_58 : decode prog_7_method_13_code 58 = .ok (.goto (-43), 3) := by decide +kernel
theorem d_L_toldWrongly_30 : decode prog_7_method_13_code 30 = .ok (.aload_n 0, 1) := by decide +kernel
theorem d_L_toldWrongly_31 : decode prog_7_method_13_code 31 = .ok (.iload_n 3, 1) := by decide +kernel
theorem d_L_toldWrongly_32 : decode prog_7_method_13_code 32 = .ok (.iload 4, 2) := by decide +kernel
theorem d_L_toldWrongly_34 : decode prog_7_method_13_code 34 = .ok (.iload_n 1, 1) := by decide +kernel
theorem d_L_toldWrongly_35 : decode prog_7_method_13_code 35 = .ok (.invokevirtual 103, 3) := by decide +kernel
theorem d_L_toldWrongly_38 : decode prog_7_method_13_code 38 = .ok (.aload_n 0, 1) := by decide +kernel
theorem d_L_toldWrongly_39 : decode prog_7_method_13_code 39 = .ok (.getfield 33, 3) := by decide +kernel
theorem d_L_toldWrongly_42 : decode prog_7_method_13_code 42 = .ok (.iload 4, 2) := by decide +kernel
theorem d_L_toldWrongly_44 : decode prog_7_method_13_code 44 = .ok (.iaload, 1) := by decide +kernel
theorem d_L_toldWrongly_45 : decode prog_7_method_13_code 45 = .ok (.iload_n 3, 1) := by decide +kernel
theorem d_L_toldWrongly_46 : decode prog_7_method_13_code 46 = .ok (.invokestatic 68, 3) := by decide +kernel
theorem d_L_toldWrongly_49 : decode prog_7_method_13_code 49 = .ok (.if_icmp .eq 6, 3) := by decide +kernel
theorem d_L_toldWrongly_52 : decode prog_7_method_13_code 52 = .ok (.iinc 2 1, 3) := by decide +kernel
theorem d_L_toldWrongly_61 : decode prog_7_method_13_code 61 = .ok (.iinc 3 1, 3) := by decide +kernel
theorem d_L_toldWrongly_64 : decode prog_7_method_13_code 64 = .ok (.goto (-60), 3) := by decide +kernel
theorem d_L_toldWrongly_67 : decode prog_7_method_13_code 67 = .ok (.iload_n 2, 1) := by decide +kernel
theorem d_L_toldWrongly_68 : decode prog_7_method_13_code 68 = .ok (.ireturn, 1) := by decide +kernel
theorem d_C_errs_0 : decode prog_1_method_23_code 0 = .ok (.iload_n 1, 1) := by decide +kernel
theorem d_C_errs_1 : decode prog_1_method_23_code 1 = .ok (.invokestatic 230, 3) := by decide +kernel
theorem d_C_errs_4 : decode prog_1_method_23_code 4 = .ok (.ifCond .eq 14, 3) := by decide +kernel
theorem d_C_errs_18 : decode prog_1_method_23_code 18 = .ok (.iconst (-1), 1) := by decide +kernel
theorem d_C_errs_19 : decode prog_1_method_23_code 19 = .ok (.ireturn, 1) := by decide +kernel
theorem d_C_errs_7 : decode prog_1_method_23_code 7 = .ok (.aload_n 0, 1) := by decide +kernel
theorem d_C_errs_8 : decode prog_1_method_23_code 8 = .ok (.getfield 38, 3) := by decide +kernel
theorem d_C_errs_11 : decode prog_1_method_23_code 11 = .ok (.iload_n 1, 1) := by decide +kernel
theorem d_C_errs_12 : decode prog_1_method_23_code 12 = .ok (.invokevirtual 241, 3) := by decide +kernel
theorem d_C_errs_15 : decode prog_1_method_23_code 15 = .ok (.goto 4, 3) := by decide +kernel
theorem d_N_moveOver_0 : decode prog_3_method_4_code 0 = .ok (.iload_n 1, 1) := by decide +kernel
theorem d_N_moveOver_1 : decode prog_3_method_4_code 1 = .ok (.istore_n 2, 1) := by decide +kernel
theorem d_N_moveOver_2 : decode prog_3_method_4_code 2 = .ok (.iconst 0, 1) := by decide +kernel
theorem d_N_moveOver_3 : decode prog_3_method_4_code 3 = .ok (.istore_n 3, 1) := by decide +kernel
theorem d_N_moveOver_4 : decode prog_3_method_4_code 4 = .ok (.iload_n 3, 1) := by decide +kernel
theorem d_N_moveOver_5 : decode prog_3_method_4_code 5 = .ok (.bipush 30, 2) := by decide +kernel
theorem d_N_moveOver_7 : decode prog_3_method_4_code 7 = .ok (.if_icmp .ge 50, 3) := by decide +kernel
theorem d_N_moveOver_10 : decode prog_3_method_4_code 10 = .ok (.iload_n 2, 1) := by decide +kernel
theorem d_N_moveOver_11 : decode prog_3_method_4_code 11 = .ok (.iconst (-1), 1) := by decide +kernel
theorem d_N_moveOver_12 : decode prog_3_method_4_code 12 = .ok (.if_icmp .eq 45, 3) := by decide +kernel
theorem d_N_moveOver_15 : decode prog_3_method_4_code 15 = .ok (.aload_n 0, 1) := by decide +kernel
theorem d_N_moveOver_16 : decode prog_3_method_4_code 16 = .ok (.getfield 18, 3) := by decide +kernel
theorem d_N_moveOver_19 : decode prog_3_method_4_code 19 = .ok (.iload_n 2, 1) := by decide +kernel
theorem d_N_moveOver_20 : decode prog_3_method_4_code 20 = .ok (.iaload, 1) := by decide +kernel
theorem d_N_moveOver_21 : decode prog_3_method_4_code 21 = .ok (.istore 4, 2) := by decide +kernel
theorem d_N_moveOver_23 : decode prog_3_method_4_code 23 = .ok (.aload_n 0, 1) := by decide +kernel
theorem d_N_moveOver_24 : decode prog_3_method_4_code 24 = .ok (.getfield 9, 3) := by decide +kernel
theorem d_N_moveOver_27 : decode prog_3_method_4_code 27 = .ok (.iload 4, 2) := by decide +kernel
theorem d_N_moveOver_29 : decode prog_3_method_4_code 29 = .ok (.iaload, 1) := by decide +kernel
theorem d_N_moveOver_30 : decode prog_3_method_4_code 30 = .ok (.istore 5, 2) := by decide +kernel
theorem d_N_moveOver_32 : decode prog_3_method_4_code 32 = .ok (.aload_n 0, 1) := by decide +kernel
theorem d_N_moveOver_33 : decode prog_3_method_4_code 33 = .ok (.getfield 9, 3) := by decide +kernel
theorem d_N_moveOver_36 : decode prog_3_method_4_code 36 = .ok (.iload 4, 2) := by decide +kernel
theorem d_N_moveOver_38 : decode prog_3_method_4_code 38 = .ok (.iload_n 2, 1) := by decide +kernel
theorem d_N_moveOver_39 : decode prog_3_method_4_code 39 = .ok (.iastore, 1) := by decide +kernel
theorem d_N_moveOver_40 : decode prog_3_method_4_code 40 = .ok (.aload_n 0, 1) := by decide +kernel
theorem d_N_moveOver_41 : decode prog_3_method_4_code 41 = .ok (.getfield 15, 3) := by decide +kernel
theorem d_N_moveOver_44 : decode prog_3_method_4_code 44 = .ok (.iload_n 2, 1) := by decide +kernel
theorem d_N_moveOver_45 : decode prog_3_method_4_code 45 = .ok (.iload 4, 2) := by decide +kernel
theorem d_N_moveOver_47 : decode prog_3_method_4_code 47 = .ok (.iastore, 1) := by decide +kernel
theorem d_N_moveOver_48 : decode prog_3_method_4_code 48 = .ok (.iload 5, 2) := by decide +kernel
theorem d_N_moveOver_50 : decode prog_3_method_4_code 50 = .ok (.istore_n 2, 1) := by decide +kernel
theorem d_N_moveOver_51 : decode prog_3_method_4_code 51 = .ok (.iinc 3 1, 3) := by decide +kernel
theorem d_N_moveOver_54 : decode prog_3_method_4_code 54 = .ok (.goto (-50), 3) := by decide +kernel
theorem d_N_moveOver_57 : decode prog_3_method_4_code 57 = .ok (.return_, 1) := by decide +kernel
theorem d_N_putOneBehind_0 : decode prog_3_method_3_code 0 = .ok (.iconst 1, 1) := by decide +kernel
theorem d_N_putOneBehind_1 : decode prog_3_method_3_code 1 = .ok (.istore_n 3, 1) := by decide +kernel
theorem d_N_putOneBehind_2 : decode prog_3_method_3_code 2 = .ok (.iconst 0, 1) := by decide +kernel
theorem d_N_putOneBehind_3 : decode prog_3_method_3_code 3 = .ok (.istore 4, 2) := by decide +kernel
theorem d_N_putOneBehind_5 : decode prog_3_method_3_code 5 = .ok (.aload_n 0, 1) := by decide +kernel
theorem d_N_putOneBehind_6 : decode prog_3_method_3_code 6 = .ok (.getfield 21, 3) := by decide +kernel
theorem d_N_putOneBehind_9 : decode prog_3_method_3_code 9 = .ok (.iconst 0, 1) := by decide +kernel
theorem d_N_putOneBehind_10 : decode prog_3_method_3_code 10 = .ok (.iload_n 1, 1) := by decide +kernel
theorem d_N_putOneBehind_11 : decode prog_3_method_3_code 11 = .ok (.iastore, 1) := by decide +kernel
theorem d_N_putOneBehind_12 : decode prog_3_method_3_code 12 = .ok (.iconst 0, 1) := by decide +kernel
theorem d_N_putOneBehind_13 : decode prog_3_method_3_code 13 = .ok (.istore 5, 2) := by decide +kernel
theorem d_N_putOneBehind_15 : decode prog_3_method_3_code 15 = .ok (.iload 5, 2) := by decide +kernel
theorem d_N_putOneBehind_17 : decode prog_3_method_3_code 17 = .ok (.iload_n 3, 1) := by decide +kernel
theorem d_N_putOneBehind_18 : decode prog_3_method_3_code 18 = .ok (.if_icmp .ge 139, 3) := by decide +kernel
theorem d_N_putOneBehind_21 : decode prog_3_method_3_code 21 = .ok (.iload 5, 2) := by decide +kernel
theorem d_N_putOneBehind_23 : decode prog_3_method_3_code 23 = .ok (.bipush 30, 2) := by decide +kernel
theorem d_N_putOneBehind_25 : decode prog_3_method_3_code 25 = .ok (.if_icmp .ge 132, 3) := by decide +kernel
theorem d_N_putOneBehind_28 : decode prog_3_method_3_code 28 = .ok (.iconst 0, 1) := by decide +kernel
theorem d_N_putOneBehind_29 : decode prog_3_method_3_code 29 = .ok (.istore 6, 2) := by decide +kernel
theorem d_N_putOneBehind_31 : decode prog_3_method_3_code 31 = .ok (.iload 6, 2) := by decide +kernel
theorem d_N_putOneBehind_33 : decode prog_3_method_3_code 33 = .ok (.aload_n 0, 1) := by decide +kernel
theorem d_N_putOneBehind_34 : decode prog_3_method_3_code 34 = .ok (.getfield 24, 3) := by decide +kernel
theorem d_N_putOneBehind_37 : decode prog_3_method_3_code 37 = .ok (.getfield 34, 3) := by decide +kernel
theorem d_N_putOneBehind_40 : decode prog_3_method_3_code 40 = .ok (.if_icmp .ge 111, 3) := by decide +kernel
theorem d_N_putOneBehind_43 : decode prog_3_method_3_code 43 = .ok (.iload_n 2, 1) := by decide +kernel
theorem d_N_putOneBehind_44 : decode prog_3_method_3_code 44 = .ok (.iload 4, 2) := by decide +kernel
theorem d_N_putOneBehind_46 : decode prog_3_method_3_code 46 = .ok (.iconst (-1), 1) := by decide +kernel
theorem d_N_putOneBehind_47 : decode prog_3_method_3_code 47 = .ok (.ixor, 1) := by decide +kernel
theorem d_N_putOneBehind_48 : decode prog_3_method_3_code 48 = .ok (.iand, 1) := by decide +kernel
theorem d_N_putOneBehind_49 : decode prog_3_method_3_code 49 = .ok (.iload 6, 2) := by decide +kernel
theorem d_N_putOneBehind_51 : decode prog_3_method_3_code 51 = .ok (.invokestatic 40, 3) := by decide +kernel
theorem d_N_putOneBehind_54 : decode prog_3_method_3_code 54 = .ok (.ifCond .eq 91, 3) := by decide +kernel
theorem d_N_putOneBehind_145 : decode prog_3_method_3_code 145 = .ok (.iinc 6 1, 3) := by decide +kernel
theorem d_N_putOneBehind_148 : decode prog_3_method_3_code 148 = .ok (.goto (-117), 3) := by decide +kernel
theorem d_N_putOneBehind_57 : decode prog_3_method_3_code 57 = .ok (.aload_n 0, 1) := by decide +kernel
theorem d_N_putOneBehind_58 : decode prog_3_method_3_code 58 = .ok (.getfield 24, 3) := by decide +kernel
theorem d_N_putOneBehind_61 : decode prog_3_method_3_code 61 = .ok (.getfield 51, 3) := by decide +kernel
theorem d_N_putOneBehind_64 : decode prog_3_method_3_code 64 = .ok (.iload 6, 2) := by decide +kernel
theorem d_N_putOneBehind_66 : decode prog_3_method_3_code 66 = .ok (.iaload, 1) := by decide +kernel
theorem d_N_putOneBehind_67 : decode prog_3_method_3_code 67 = .ok (.aload_n 0, 1) := by decide +kernel
theorem d_N_putOneBehind_68 : decode prog_3_method_3_code 68 = .ok (.getfield 21, 3) := by decide +kernel
theorem d_N_putOneBehind_71 : decode prog_3_method_3_code 71 = .ok (.iload 5, 2) := by decide +kernel
theorem d_N_putOneBehind_73 : decode prog_3_method_3_code 73 = .ok (.iaload, 1) := by decide +kernel
theorem d_N_putOneBehind_74 : decode prog_3_method_3_code 74 = .ok (.invokestatic 40, 3) := by decide +kernel
theorem d_N_putOneBehind_77 : decode prog_3_method_3_code 77 = .ok (.ifCond .eq 68, 3) := by decide +kernel
theorem d_N_putOneBehind_80 : decode prog_3_method_3_code 80 = .ok (.iload 4, 2) := by decide +kernel
theorem d_N_putOneBehind_82 : decode prog_3_method_3_code 82 = .ok (.iload 6, 2) := by decide +kernel
theorem d_N_putOneBehind_84 : decode prog_3_method_3_code 84 = .ok (.invokestatic 54, 3) := by decide +kernel
theorem d_N_putOneBehind_87 : decode prog_3_method_3_code 87 = .ok (.ior, 1) := by decide +kernel
theorem d_N_putOneBehind_88 : decode prog_3_method_3_code 88 = .ok (.istore 4, 2) := by decide +kernel
theorem d_N_putOneBehind_90 : decode prog_3_method_3_code 90 = .ok (.aload_n 0, 1) := by decide +kernel
theorem d_N_putOneBehind_91 : decode prog_3_method_3_code 91 = .ok (.getfield 18, 3) := by decide +kernel
theorem d_N_putOneBehind_94 : decode prog_3_method_3_code 94 = .ok (.iload 6, 2) := by decide +kernel
theorem d_N_putOneBehind_96 : decode prog_3_method_3_code 96 = .ok (.aload_n 0, 1) := by decide +kernel
theorem d_N_putOneBehind_97 : decode prog_3_method_3_code 97 = .ok (.getfield 21, 3) := by decide +kernel
theorem d_N_putOneBehind_100 : decode prog_3_method_3_code 100 = .ok (.iload 5, 2) := by decide +kernel
theorem d_N_putOneBehind_102 : decode prog_3_method_3_code 102 = .ok (.iaload, 1) := by decide +kernel
theorem d_N_putOneBehind_103 : decode prog_3_method_3_code 103 = .ok (.iastore, 1) := by decide +kernel
theorem d_N_putOneBehind_104 : decode prog_3_method_3_code 104 = .ok (.aload_n 0, 1) := by decide +kernel
theorem d_N_putOneBehind_105 : decode prog_3_method_3_code 105 = .ok (.getfield 15, 3) := by decide +kernel
theorem d_N_putOneBehind_108 : decode prog_3_method_3_code 108 = .ok (.iload 6, 2) := by decide +kernel
theorem d_N_putOneBehind_110 : decode prog_3_method_3_code 110 = .ok (.iaload, 1) := by decide +kernel
theorem d_N_putOneBehind_111 : decode prog_3_method_3_code 111 = .ok (.iconst (-1), 1) := by decide +kernel
theorem d_N_putOneBehind_112 : decode prog_3_method_3_code 112 = .ok (.if_icmp .ne 11, 3) := by decide +kernel
theorem d_N_putOneBehind_123 : decode prog_3_method_3_code 123 = .ok (.iload_n 3, 1) := by decide +kernel
theorem d_N_putOneBehind_124 : decode prog_3_method_3_code 124 = .ok (.bipush 30, 2) := by decide +kernel
theorem d_N_putOneBehind_126 : decode prog_3_method_3_code 126 = .ok (.if_icmp .ge 19, 3) := by decide +kernel
theorem d_N_putOneBehind_129 : decode prog_3_method_3_code 129 = .ok (.aload_n 0, 1) := by decide +kernel
theorem d_N_putOneBehind_130 : decode prog_3_method_3_code 130 = .ok (.getfield 21, 3) := by decide +kernel
theorem d_N_putOneBehind_133 : decode prog_3_method_3_code 133 = .ok (.iload_n 3, 1) := by decide +kernel
theorem d_N_putOneBehind_134 : decode prog_3_method_3_code 134 = .ok (.aload_n 0, 1) := by decide +kernel
theorem d_N_putOneBehind_135 : decode prog_3_method_3_code 135 = .ok (.getfield 15, 3) := by decide +kernel
theorem d_N_putOneBehind_138 : decode prog_3_method_3_code 138 = .ok (.iload 6, 2) := by decide +kernel
theorem d_N_putOneBehind_140 : decode prog_3_method_3_code 140 = .ok (.iaload, 1) := by decide +kernel
theorem d_N_putOneBehind_141 : decode prog_3_method_3_code 141 = .ok (.iastore, 1) := by decide +kernel
theorem d_N_putOneBehind_142 : decode prog_3_method_3_code 142 = .ok (.iinc 3 1, 3) := by decide +kernel
theorem d_N_putOneBehind_151 : decode prog_3_method_3_code 151 = .ok (.iinc 5 1, 3) := by decide +kernel
theorem d_N_putOneBehind_154 : decode prog_3_method_3_code 154 = .ok (.goto (-139), 3) := by decide +kernel
theorem d_N_putOneBehind_115 : decode prog_3_method_3_code 115 = .ok (.aload_n 0, 1) := by decide +kernel
theorem d_N_putOneBehind_116 : decode prog_3_method_3_code 116 = .ok (.iload 6, 2) := by decide +kernel
theorem d_N_putOneBehind_118 : decode prog_3_method_3_code 118 = .ok (.invokevirtual 57, 3) := by decide +kernel
theorem d_N_putOneBehind_121 : decode prog_3_method_3_code 121 = .ok (.iconst 1, 1) := by decide +kernel
theorem d_N_putOneBehind_122 : decode prog_3_method_3_code 122 = .ok (.ireturn, 1) := by decide +kernel
theorem d_N_putOneBehind_157 : decode prog_3_method_3_code 157 = .ok (.iconst 0, 1) := by decide +kernel
theorem d_N_putOneBehind_158 : decode prog_3_method_3_code 158 = .ok (.ireturn, 1) := by decide +kernel
theorem d_N_fewest_0 : decode prog_3_method_2_code 0 = .ok (.iconst 0, 1) := by decide +kernel
theorem d_N_fewest_1 : decode prog_3_method_2_code 1 = .ok (.istore_n 2, 1) := by decide +kernel
theorem d_N_fewest_2 : decode prog_3_method_2_code 2 = .ok (.iload_n 2, 1) := by decide +kernel
theorem d_N_fewest_3 : decode prog_3_method_2_code 3 = .ok (.bipush 30, 2) := by decide +kernel
theorem d_N_fewest_5 : decode prog_3_method_2_code 5 = .ok (.if_icmp .ge 23, 3) := by decide +kernel
theorem d_N_fewest_8 : decode prog_3_method_2_code 8 = .ok (.aload_n 0, 1) := by decide +kernel
theorem d_N_fewest_9 : decode prog_3_method_2_code 9 = .ok (.getfield 9, 3) := by decide +kernel
theorem d_N_fewest_12 : decode prog_3_method_2_code 12 = .ok (.iload_n 2, 1) := by decide +kernel
theorem d_N_fewest_13 : decode prog_3_method_2_code 13 = .ok (.iconst (-1), 1) := by decide +kernel
theorem d_N_fewest_14 : decode prog_3_method_2_code 14 = .ok (.iastore, 1) := by decide +kernel
theorem d_N_fewest_15 : decode prog_3_method_2_code 15 = .ok (.aload_n 0, 1) := by decide +kernel
theorem d_N_fewest_16 : decode prog_3_method_2_code 16 = .ok (.getfield 15, 3) := by decide +kernel
theorem d_N_fewest_19 : decode prog_3_method_2_code 19 = .ok (.iload_n 2, 1) := by decide +kernel
theorem d_N_fewest_20 : decode prog_3_method_2_code 20 = .ok (.iconst (-1), 1) := by decide +kernel
theorem d_N_fewest_21 : decode prog_3_method_2_code 21 = .ok (.iastore, 1) := by decide +kernel
theorem d_N_fewest_22 : decode prog_3_method_2_code 22 = .ok (.iinc 2 1, 3) := by decide +kernel
theorem d_N_fewest_25 : decode prog_3_method_2_code 25 = .ok (.goto (-23), 3) := by decide +kernel
theorem d_N_fewest_28 : decode prog_3_method_2_code 28 = .ok (.iload_n 1, 1) := by decide +kernel
theorem d_N_fewest_29 : decode prog_3_method_2_code 29 = .ok (.invokestatic 28, 3) := by decide +kernel
theorem d_N_fewest_32 : decode prog_3_method_2_code 32 = .ok (.istore_n 2, 1) := by decide +kernel
theorem d_N_fewest_33 : decode prog_3_method_2_code 33 = .ok (.iconst 0, 1) := by decide +kernel
theorem d_N_fewest_34 : decode prog_3_method_2_code 34 = .ok (.istore_n 3, 1) := by decide +kernel
theorem d_N_fewest_35 : decode prog_3_method_2_code 35 = .ok (.iload_n 3, 1) := by decide +kernel
theorem d_N_fewest_36 : decode prog_3_method_2_code 36 = .ok (.aload_n 0, 1) := by decide +kernel
theorem d_N_fewest_37 : decode prog_3_method_2_code 37 = .ok (.getfield 24, 3) := by decide +kernel
theorem d_N_fewest_40 : decode prog_3_method_2_code 40 = .ok (.getfield 34, 3) := by decide +kernel
theorem d_N_fewest_43 : decode prog_3_method_2_code 43 = .ok (.if_icmp .ge 29, 3) := by decide +kernel
theorem d_N_fewest_46 : decode prog_3_method_2_code 46 = .ok (.iload_n 1, 1) := by decide +kernel
theorem d_N_fewest_47 : decode prog_3_method_2_code 47 = .ok (.iload_n 3, 1) := by decide +kernel
theorem d_N_fewest_48 : decode prog_3_method_2_code 48 = .ok (.invokestatic 40, 3) := by decide +kernel
theorem d_N_fewest_51 : decode prog_3_method_2_code 51 = .ok (.ifCond .eq 15, 3) := by decide +kernel
theorem d_N_fewest_66 : decode prog_3_method_2_code 66 = .ok (.iinc 3 1, 3) := by decide +kernel
theorem d_N_fewest_69 : decode prog_3_method_2_code 69 = .ok (.goto (-34), 3) := by decide +kernel
theorem d_N_fewest_54 : decode prog_3_method_2_code 54 = .ok (.iload_n 2, 1) := by decide +kernel
theorem d_N_fewest_55 : decode prog_3_method_2_code 55 = .ok (.aload_n 0, 1) := by decide +kernel
theorem d_N_fewest_56 : decode prog_3_method_2_code 56 = .ok (.iload_n 3, 1) := by decide +kernel
theorem d_N_fewest_57 : decode prog_3_method_2_code 57 = .ok (.iload_n 1, 1) := by decide +kernel
theorem d_N_fewest_58 : decode prog_3_method_2_code 58 = .ok (.invokevirtual 44, 3) := by decide +kernel
theorem d_N_fewest_61 : decode prog_3_method_2_code 61 = .ok (.invokestatic 47, 3) := by decide +kernel
theorem d_N_fewest_64 : decode prog_3_method_2_code 64 = .ok (.isub, 1) := by decide +kernel
theorem d_N_fewest_65 : decode prog_3_method_2_code 65 = .ok (.istore_n 2, 1) := by decide +kernel
theorem d_N_fewest_72 : decode prog_3_method_2_code 72 = .ok (.iload_n 2, 1) := by decide +kernel
theorem d_N_fewest_73 : decode prog_3_method_2_code 73 = .ok (.ireturn, 1) := by decide +kernel
theorem d_L_isSet_0 : decode prog_7_method_5_code 0 = .ok (.iload_n 1, 1) := by decide +kernel
theorem d_L_isSet_1 : decode prog_7_method_5_code 1 = .ok (.ifCond .lt 23, 3) := by decide +kernel
theorem d_L_isSet_24 : decode prog_7_method_5_code 24 = .ok (.iconst 0, 1) := by decide +kernel
theorem d_L_isSet_25 : decode prog_7_method_5_code 25 = .ok (.ireturn, 1) := by decide +kernel
theorem d_L_isSet_4 : decode prog_7_method_5_code 4 = .ok (.iload_n 1, 1) := by decide +kernel
theorem d_L_isSet_5 : decode prog_7_method_5_code 5 = .ok (.aload_n 0, 1) := by decide +kernel
theorem d_L_isSet_6 : decode prog_7_method_5_code 6 = .ok (.getfield 57, 3) := by decide +kernel
theorem d_L_isSet_9 : decode prog_7_method_5_code 9 = .ok (.invokestatic 72, 3) := by decide +kernel
theorem d_L_isSet_12 : decode prog_7_method_5_code 12 = .ok (.iconst 1, 1) := by decide +kernel
theorem d_L_isSet_13 : decode prog_7_method_5_code 13 = .ok (.isub, 1) := by decide +kernel
theorem d_L_isSet_14 : decode prog_7_method_5_code 14 = .ok (.iconst (-1), 1) := by decide +kernel
theorem d_L_isSet_15 : decode prog_7_method_5_code 15 = .ok (.ixor, 1) := by decide +kernel
theorem d_L_isSet_16 : decode prog_7_method_5_code 16 = .ok (.iand, 1) := by decide +kernel
theorem d_L_isSet_17 : decode prog_7_method_5_code 17 = .ok (.ifCond .ne 7, 3) := by decide +kernel
theorem d_L_isSet_20 : decode prog_7_method_5_code 20 = .ok (.iconst 1, 1) := by decide +kernel
theorem d_L_isSet_21 : decode prog_7_method_5_code 21 = .ok (.goto 4, 3) := by decide +kernel
theorem d_C_chains_0 : decode prog_1_method_24_code 0 = .ok (.aload_n 0, 1) := by decide +kernel
theorem d_C_chains_1 : decode prog_1_method_24_code 1 = .ok (.getfield 38, 3) := by decide +kernel
theorem d_C_chains_4 : decode prog_1_method_24_code 4 = .ok (.iload_n 1, 1) := by decide +kernel
theorem d_C_chains_5 : decode prog_1_method_24_code 5 = .ok (.invokevirtual 244, 3) := by decide +kernel
theorem d_C_chains_8 : decode prog_1_method_24_code 8 = .ok (.ifCond .eq 14, 3) := by decide +kernel
theorem d_C_chains_22 : decode prog_1_method_24_code 22 = .ok (.iconst (-1), 1) := by decide +kernel
theorem d_C_chains_23 : decode prog_1_method_24_code 23 = .ok (.ireturn, 1) := by decide +kernel
theorem d_C_chains_11 : decode prog_1_method_24_code 11 = .ok (.aload_n 0, 1) := by decide +kernel
theorem d_C_chains_12 : decode prog_1_method_24_code 12 = .ok (.getfield 70, 3) := by decide +kernel
theorem d_C_chains_15 : decode prog_1_method_24_code 15 = .ok (.iload_n 1, 1) := by decide +kernel
theorem d_C_chains_16 : decode prog_1_method_24_code 16 = .ok (.invokevirtual 247, 3) := by decide +kernel
theorem d_C_chains_19 : decode prog_1_method_24_code 19 = .ok (.goto 4, 3) := by decide +kernel
theorem d_C_waits_0 : decode prog_1_method_25_code 0 = .ok (.aload_n 0, 1) := by decide +kernel
theorem d_C_waits_1 : decode prog_1_method_25_code 1 = .ok (.getfield 52, 3) := by decide +kernel
theorem d_C_waits_4 : decode prog_1_method_25_code 4 = .ok (.iload_n 1, 1) := by decide +kernel
theorem d_C_waits_5 : decode prog_1_method_25_code 5 = .ok (.iload_n 2, 1) := by decide +kernel
theorem d_C_waits_6 : decode prog_1_method_25_code 6 = .ok (.invokevirtual 155, 3) := by decide +kernel
theorem d_C_waits_9 : decode prog_1_method_25_code 9 = .ok (.ifCond .eq 12, 3) := by decide +kernel
theorem d_C_waits_21 : decode prog_1_method_25_code 21 = .ok (.iconst (-1), 1) := by decide +kernel
theorem d_C_waits_22 : decode prog_1_method_25_code 22 = .ok (.ireturn, 1) := by decide +kernel
theorem d_C_waits_12 : decode prog_1_method_25_code 12 = .ok (.aload_n 0, 1) := by decide +kernel
theorem d_C_waits_13 : decode prog_1_method_25_code 13 = .ok (.iload_n 1, 1) := by decide +kernel
theorem d_C_waits_14 : decode prog_1_method_25_code 14 = .ok (.iload_n 2, 1) := by decide +kernel
theorem d_C_waits_15 : decode prog_1_method_25_code 15 = .ok (.invokevirtual 250, 3) := by decide +kernel
theorem d_C_waits_18 : decode prog_1_method_25_code 18 = .ok (.goto 4, 3) := by decide +kernel
theorem d_P_onTheWayTo_0 : decode prog_9_method_11_code 0 = .ok (.iconst 0, 1) := by decide +kernel
theorem d_P_onTheWayTo_1 : decode prog_9_method_11_code 1 = .ok (.istore_n 2, 1) := by decide +kernel
theorem d_P_onTheWayTo_2 : decode prog_9_method_11_code 2 = .ok (.iconst 0, 1) := by decide +kernel
theorem d_P_onTheWayTo_3 : decode prog_9_method_11_code 3 = .ok (.istore_n 3, 1) := by decide +kernel
theorem d_P_onTheWayTo_4 : decode prog_9_method_11_code 4 = .ok (.iload_n 3, 1) := by decide +kernel
theorem d_P_onTheWayTo_5 : decode prog_9_method_11_code 5 = .ok (.aload_n 0, 1) := by decide +kernel
theorem d_P_onTheWayTo_6 : decode prog_9_method_11_code 6 = .ok (.getfield 35, 3) := by decide +kernel
theorem d_P_onTheWayTo_9 : decode prog_9_method_11_code 9 = .ok (.if_icmp .ge 40, 3) := by decide +kernel
theorem d_P_onTheWayTo_12 : decode prog_9_method_11_code 12 = .ok (.aload_n 0, 1) := by decide +kernel
theorem d_P_onTheWayTo_13 : decode prog_9_method_11_code 13 = .ok (.getfield 32, 3) := by decide +kernel
theorem d_P_onTheWayTo_16 : decode prog_9_method_11_code 16 = .ok (.iload_n 3, 1) := by decide +kernel
theorem d_P_onTheWayTo_17 : decode prog_9_method_11_code 17 = .ok (.iaload, 1) := by decide +kernel
theorem d_P_onTheWayTo_18 : decode prog_9_method_11_code 18 = .ok (.ifCond .ne 25, 3) := by decide +kernel
theorem d_P_onTheWayTo_43 : decode prog_9_method_11_code 43 = .ok (.iinc 3 1, 3) := by decide +kernel
theorem d_P_onTheWayTo_46 : decode prog_9_method_11_code 46 = .ok (.goto (-42), 3) := by decide +kernel
theorem d_P_onTheWayTo_21 : decode prog_9_method_11_code 21 = .ok (.aload_n 0, 1) := by decide +kernel
theorem d_P_onTheWayTo_22 : decode prog_9_method_11_code 22 = .ok (.getfield 26, 3) := by decide +kernel
theorem d_P_onTheWayTo_25 : decode prog_9_method_11_code 25 = .ok (.iload_n 3, 1) := by decide +kernel
theorem d_P_onTheWayTo_26 : decode prog_9_method_11_code 26 = .ok (.iaload, 1) := by decide +kernel
theorem d_P_onTheWayTo_27 : decode prog_9_method_11_code 27 = .ok (.iload_n 1, 1) := by decide +kernel
theorem d_P_onTheWayTo_28 : decode prog_9_method_11_code 28 = .ok (.if_icmp .ne 15, 3) := by decide +kernel
theorem d_P_onTheWayTo_31 : decode prog_9_method_11_code 31 = .ok (.iload_n 2, 1) := by decide +kernel
theorem d_P_onTheWayTo_32 : decode prog_9_method_11_code 32 = .ok (.aload_n 0, 1) := by decide +kernel
theorem d_P_onTheWayTo_33 : decode prog_9_method_11_code 33 = .ok (.getfield 19, 3) := by decide +kernel
theorem d_P_onTheWayTo_36 : decode prog_9_method_11_code 36 = .ok (.iload_n 3, 1) := by decide +kernel
theorem d_P_onTheWayTo_37 : decode prog_9_method_11_code 37 = .ok (.iaload, 1) := by decide +kernel
theorem d_P_onTheWayTo_38 : decode prog_9_method_11_code 38 = .ok (.invokestatic 83, 3) := by decide +kernel
theorem d_P_onTheWayTo_41 : decode prog_9_method_11_code 41 = .ok (.ior, 1) := by decide +kernel
theorem d_P_onTheWayTo_42 : decode prog_9_method_11_code 42 = .ok (.istore_n 2, 1) := by decide +kernel
theorem d_P_onTheWayTo_49 : decode prog_9_method_11_code 49 = .ok (.iload_n 2, 1) := by decide +kernel
theorem d_P_onTheWayTo_50 : decode prog_9_method_11_code 50 = .ok (.ireturn, 1) := by decide +kernel
theorem d_C_ever_0 : decode prog_1_method_26_code 0 = .ok (.iload_n 1, 1) := by decide +kernel
theorem d_C_ever_1 : decode prog_1_method_26_code 1 = .ok (.invokestatic 102, 3) := by decide +kernel
theorem d_C_ever_4 : decode prog_1_method_26_code 4 = .ok (.ifCond .ne 5, 3) := by decide +kernel
theorem d_C_ever_9 : decode prog_1_method_26_code 9 = .ok (.aload_n 0, 1) := by decide +kernel
theorem d_C_ever_10 : decode prog_1_method_26_code 10 = .ok (.getfield 52, 3) := by decide +kernel
theorem d_C_ever_13 : decode prog_1_method_26_code 13 = .ok (.getfield 253, 3) := by decide +kernel
theorem d_C_ever_16 : decode prog_1_method_26_code 16 = .ok (.iload_n 1, 1) := by decide +kernel
theorem d_C_ever_17 : decode prog_1_method_26_code 17 = .ok (.iaload, 1) := by decide +kernel
theorem d_C_ever_18 : decode prog_1_method_26_code 18 = .ok (.aload_n 0, 1) := by decide +kernel
theorem d_C_ever_19 : decode prog_1_method_26_code 19 = .ok (.getfield 45, 3) := by decide +kernel
theorem d_C_ever_22 : decode prog_1_method_26_code 22 = .ok (.iload_n 1, 1) := by decide +kernel
theorem d_C_ever_23 : decode prog_1_method_26_code 23 = .ok (.invokevirtual 256, 3) := by decide +kernel
theorem d_C_ever_26 : decode prog_1_method_26_code 26 = .ok (.ior, 1) := by decide +kernel
theorem d_C_ever_27 : decode prog_1_method_26_code 27 = .ok (.istore_n 2, 1) := by decide +kernel
theorem d_C_ever_28 : decode prog_1_method_26_code 28 = .ok (.iconst 0, 1) := by decide +kernel
theorem d_C_ever_29 : decode prog_1_method_26_code 29 = .ok (.istore_n 3, 1) := by decide +kernel
theorem d_C_ever_30 : decode prog_1_method_26_code 30 = .ok (.iconst 0, 1) := by decide +kernel
theorem d_C_ever_31 : decode prog_1_method_26_code 31 = .ok (.istore 4, 2) := by decide +kernel
theorem d_C_ever_33 : decode prog_1_method_26_code 33 = .ok (.iload 4, 2) := by decide +kernel
theorem d_C_ever_35 : decode prog_1_method_26_code 35 = .ok (.aload_n 0, 1) := by decide +kernel
theorem d_C_ever_36 : decode prog_1_method_26_code 36 = .ok (.getfield 38, 3) := by decide +kernel
theorem d_C_ever_39 : decode prog_1_method_26_code 39 = .ok (.getfield 259, 3) := by decide +kernel
theorem d_C_ever_42 : decode prog_1_method_26_code 42 = .ok (.if_icmp .ge 55, 3) := by decide +kernel
theorem d_C_ever_45 : decode prog_1_method_26_code 45 = .ok (.aload_n 0, 1) := by decide +kernel
theorem d_C_ever_46 : decode prog_1_method_26_code 46 = .ok (.getfield 52, 3) := by decide +kernel
theorem d_C_ever_49 : decode prog_1_method_26_code 49 = .ok (.iload_n 1, 1) := by decide +kernel
theorem d_C_ever_50 : decode prog_1_method_26_code 50 = .ok (.iload 4, 2) := by decide +kernel
theorem d_C_ever_52 : decode prog_1_method_26_code 52 = .ok (.invokevirtual 155, 3) := by decide +kernel
theorem d_C_ever_55 : decode prog_1_method_26_code 55 = .ok (.ifCond .eq 36, 3) := by decide +kernel
theorem d_C_ever_91 : decode prog_1_method_26_code 91 = .ok (.iinc 4 1, 3) := by decide +kernel
theorem d_C_ever_94 : decode prog_1_method_26_code 94 = .ok (.goto (-61), 3) := by decide +kernel
theorem d_C_ever_58 : decode prog_1_method_26_code 58 = .ok (.aload_n 0, 1) := by decide +kernel
theorem d_C_ever_59 : decode prog_1_method_26_code 59 = .ok (.iload_n 1, 1) := by decide +kernel
theorem d_C_ever_60 : decode prog_1_method_26_code 60 = .ok (.iload 4, 2) := by decide +kernel
theorem d_C_ever_62 : decode prog_1_method_26_code 62 = .ok (.invokevirtual 250, 3) := by decide +kernel
theorem d_C_ever_65 : decode prog_1_method_26_code 65 = .ok (.istore 5, 2) := by decide +kernel
theorem d_C_ever_67 : decode prog_1_method_26_code 67 = .ok (.iload 5, 2) := by decide +kernel
theorem d_C_ever_69 : decode prog_1_method_26_code 69 = .ok (.iload_n 2, 1) := by decide +kernel
theorem d_C_ever_70 : decode prog_1_method_26_code 70 = .ok (.iconst (-1), 1) := by decide +kernel
theorem d_C_ever_71 : decode prog_1_method_26_code 71 = .ok (.ixor, 1) := by decide +kernel
theorem d_C_ever_72 : decode prog_1_method_26_code 72 = .ok (.iand, 1) := by decide +kernel
theorem d_C_ever_73 : decode prog_1_method_26_code 73 = .ok (.ifCond .ne 10, 3) := by decide +kernel
theorem d_C_ever_83 : decode prog_1_method_26_code 83 = .ok (.iload_n 3, 1) := by decide +kernel
theorem d_C_ever_84 : decode prog_1_method_26_code 84 = .ok (.iload 4, 2) := by decide +kernel
theorem d_C_ever_86 : decode prog_1_method_26_code 86 = .ok (.invokestatic 262, 3) := by decide +kernel
theorem d_C_ever_89 : decode prog_1_method_26_code 89 = .ok (.ior, 1) := by decide +kernel
theorem d_C_ever_90 : decode prog_1_method_26_code 90 = .ok (.istore_n 3, 1) := by decide +kernel
theorem d_C_ever_76 : decode prog_1_method_26_code 76 = .ok (.iload 5, 2) := by decide +kernel
theorem d_C_ever_78 : decode prog_1_method_26_code 78 = .ok (.iload_n 3, 1) := by decide +kernel
theorem d_C_ever_79 : decode prog_1_method_26_code 79 = .ok (.iand, 1) := by decide +kernel
theorem d_C_ever_80 : decode prog_1_method_26_code 80 = .ok (.ifCond .eq 11, 3) := by decide +kernel
theorem d_C_ever_97 : decode prog_1_method_26_code 97 = .ok (.iload_n 3, 1) := by decide +kernel
theorem d_C_ever_98 : decode prog_1_method_26_code 98 = .ok (.ireturn, 1) := by decide +kernel
theorem d_C_ever_7 : decode prog_1_method_26_code 7 = .ok (.iconst (-1), 1) := by decide +kernel
theorem d_C_ever_8 : decode prog_1_method_26_code 8 = .ok (.ireturn, 1) := by decide +kernel
theorem d_C_dayKnown_0 : decode prog_1_method_58_code 0 = .ok (.aload_n 0, 1) := by decide +kernel
theorem d_C_dayKnown_1 : decode prog_1_method_58_code 1 = .ok (.getfield 38, 3) := by decide +kernel
theorem d_C_dayKnown_4 : decode prog_1_method_58_code 4 = .ok (.getfield 172, 3) := by decide +kernel
theorem d_C_dayKnown_7 : decode prog_1_method_58_code 7 = .ok (.iload_n 2, 1) := by decide +kernel
theorem d_C_dayKnown_8 : decode prog_1_method_58_code 8 = .ok (.iaload, 1) := by decide +kernel
theorem d_C_dayKnown_9 : decode prog_1_method_58_code 9 = .ok (.iload_n 1, 1) := by decide +kernel
theorem d_C_dayKnown_10 : decode prog_1_method_58_code 10 = .ok (.if_icmp .ne 13, 3) := by decide +kernel
theorem d_C_dayKnown_23 : decode prog_1_method_58_code 23 = .ok (.aload_n 0, 1) := by decide +kernel
theorem d_C_dayKnown_24 : decode prog_1_method_58_code 24 = .ok (.getfield 52, 3) := by decide +kernel
theorem d_C_dayKnown_27 : decode prog_1_method_58_code 27 = .ok (.getfield 345, 3) := by decide +kernel
theorem d_C_dayKnown_30 : decode prog_1_method_58_code 30 = .ok (.iload_n 1, 1) := by decide +kernel
theorem d_C_dayKnown_31 : decode prog_1_method_58_code 31 = .ok (.iaload, 1) := by decide +kernel
theorem d_C_dayKnown_32 : decode prog_1_method_58_code 32 = .ok (.iload_n 2, 1) := by decide +kernel
theorem d_C_dayKnown_33 : decode prog_1_method_58_code 33 = .ok (.invokestatic 110, 3) := by decide +kernel
theorem d_C_dayKnown_36 : decode prog_1_method_58_code 36 = .ok (.ifCond .eq 17, 3) := by decide +kernel
theorem d_C_dayKnown_53 : decode prog_1_method_58_code 53 = .ok (.iconst (-1), 1) := by decide +kernel
theorem d_C_dayKnown_54 : decode prog_1_method_58_code 54 = .ok (.ireturn, 1) := by decide +kernel
theorem d_C_dayKnown_39 : decode prog_1_method_58_code 39 = .ok (.aload_n 0, 1) := by decide +kernel
theorem d_C_dayKnown_40 : decode prog_1_method_58_code 40 = .ok (.getfield 52, 3) := by decide +kernel
theorem d_C_dayKnown_43 : decode prog_1_method_58_code 43 = .ok (.getfield 402, 3) := by decide +kernel
theorem d_C_dayKnown_46 : decode prog_1_method_58_code 46 = .ok (.iload_n 1, 1) := by decide +kernel
theorem d_C_dayKnown_47 : decode prog_1_method_58_code 47 = .ok (.aaload, 1) := by decide +kernel
theorem d_C_dayKnown_48 : decode prog_1_method_58_code 48 = .ok (.iload_n 2, 1) := by decide +kernel
theorem d_C_dayKnown_49 : decode prog_1_method_58_code 49 = .ok (.iaload, 1) := by decide +kernel
theorem d_C_dayKnown_50 : decode prog_1_method_58_code 50 = .ok (.goto 4, 3) := by decide +kernel
theorem d_C_dayKnown_13 : decode prog_1_method_58_code 13 = .ok (.aload_n 0, 1) := by decide +kernel
theorem d_C_dayKnown_14 : decode prog_1_method_58_code 14 = .ok (.getfield 38, 3) := by decide +kernel
theorem d_C_dayKnown_17 : decode prog_1_method_58_code 17 = .ok (.getfield 175, 3) := by decide +kernel
theorem d_C_dayKnown_20 : decode prog_1_method_58_code 20 = .ok (.iload_n 2, 1) := by decide +kernel
theorem d_C_dayKnown_21 : decode prog_1_method_58_code 21 = .ok (.iaload, 1) := by decide +kernel
theorem d_C_dayKnown_22 : decode prog_1_method_58_code 22 = .ok (.ireturn, 1) := by decide +kernel
theorem d_C_whoKnewBy_0 : decode prog_1_method_59_code 0 = .ok (.iconst 0, 1) := by decide +kernel
theorem d_C_whoKnewBy_1 : decode prog_1_method_59_code 1 = .ok (.istore_n 3, 1) := by decide +kernel
theorem d_C_whoKnewBy_2 : decode prog_1_method_59_code 2 = .ok (.iconst 0, 1) := by decide +kernel
theorem d_C_whoKnewBy_3 : decode prog_1_method_59_code 3 = .ok (.istore 4, 2) := by decide +kernel
theorem d_C_whoKnewBy_5 : decode prog_1_method_59_code 5 = .ok (.iload 4, 2) := by decide +kernel
theorem d_C_whoKnewBy_7 : decode prog_1_method_59_code 7 = .ok (.bipush 6, 2) := by decide +kernel
theorem d_C_whoKnewBy_9 : decode prog_1_method_59_code 9 = .ok (.if_icmp .ge 38, 3) := by decide +kernel
theorem d_C_whoKnewBy_12 : decode prog_1_method_59_code 12 = .ok (.aload_n 0, 1) := by decide +kernel
theorem d_C_whoKnewBy_13 : decode prog_1_method_59_code 13 = .ok (.iload 4, 2) := by decide +kernel
theorem d_C_whoKnewBy_15 : decode prog_1_method_59_code 15 = .ok (.iload_n 1, 1) := by decide +kernel
theorem d_C_whoKnewBy_16 : decode prog_1_method_59_code 16 = .ok (.invokevirtual 268, 3) := by decide +kernel
theorem d_C_whoKnewBy_19 : decode prog_1_method_59_code 19 = .ok (.istore 5, 2) := by decide +kernel
theorem d_C_whoKnewBy_21 : decode prog_1_method_59_code 21 = .ok (.iload 5, 2) := by decide +kernel
theorem d_C_whoKnewBy_23 : decode prog_1_method_59_code 23 = .ok (.iconst (-1), 1) := by decide +kernel
theorem d_C_whoKnewBy_24 : decode prog_1_method_59_code 24 = .ok (.if_icmp .eq 17, 3) := by decide +kernel
theorem d_C_whoKnewBy_41 : decode prog_1_method_59_code 41 = .ok (.iinc 4 1, 3) := by decide +kernel
theorem d_C_whoKnewBy_44 : decode prog_1_method_59_code 44 = .ok (.goto (-39), 3) := by decide +kernel
theorem d_C_whoKnewBy_27 : decode prog_1_method_59_code 27 = .ok (.iload 5, 2) := by decide +kernel
theorem d_C_whoKnewBy_29 : decode prog_1_method_59_code 29 = .ok (.iload_n 2, 1) := by decide +kernel
theorem d_C_whoKnewBy_30 : decode prog_1_method_59_code 30 = .ok (.if_icmp .gt 11, 3) := by decide +kernel
theorem d_C_whoKnewBy_33 : decode prog_1_method_59_code 33 = .ok (.iload_n 3, 1) := by decide +kernel
theorem d_C_whoKnewBy_34 : decode prog_1_method_59_code 34 = .ok (.iload 4, 2) := by decide +kernel
theorem d_C_whoKnewBy_36 : decode prog_1_method_59_code 36 = .ok (.invokestatic 262, 3) := by decide +kernel
theorem d_C_whoKnewBy_39 : decode prog_1_method_59_code 39 = .ok (.ior, 1) := by decide +kernel
theorem d_C_whoKnewBy_40 : decode prog_1_method_59_code 40 = .ok (.istore_n 3, 1) := by decide +kernel
theorem d_C_whoKnewBy_47 : decode prog_1_method_59_code 47 = .ok (.iload_n 3, 1) := by decide +kernel
theorem d_C_whoKnewBy_48 : decode prog_1_method_59_code 48 = .ok (.ireturn, 1) := by decide +kernel
theorem d_C_has_0 : decode prog_1_method_27_code 0 = .ok (.aload_n 0, 1) := by decide +kernel
theorem d_C_has_1 : decode prog_1_method_27_code 1 = .ok (.getfield 38, 3) := by decide +kernel
theorem d_C_has_4 : decode prog_1_method_27_code 4 = .ok (.iload_n 1, 1) := by decide +kernel
theorem d_C_has_5 : decode prog_1_method_27_code 5 = .ok (.invokevirtual 132, 3) := by decide +kernel
theorem d_C_has_8 : decode prog_1_method_27_code 8 = .ok (.ifCond .eq 14, 3) := by decide +kernel
theorem d_C_has_22 : decode prog_1_method_27_code 22 = .ok (.iconst (-1), 1) := by decide +kernel
theorem d_C_has_23 : decode prog_1_method_27_code 23 = .ok (.ireturn, 1) := by decide +kernel
theorem d_C_has_11 : decode prog_1_method_27_code 11 = .ok (.aload_n 0, 1) := by decide +kernel
theorem d_C_has_12 : decode prog_1_method_27_code 12 = .ok (.iload_n 1, 1) := by decide +kernel
theorem d_C_has_13 : decode prog_1_method_27_code 13 = .ok (.sipush 999, 3) := by decide +kernel
theorem d_C_has_16 : decode prog_1_method_27_code 16 = .ok (.invokevirtual 265, 3) := by decide +kernel
theorem d_C_has_19 : decode prog_1_method_27_code 19 = .ok (.goto 4, 3) := by decide +kernel
theorem d_C_readOn_0 : decode prog_1_method_28_code 0 = .ok (.iload_n 1, 1) := by decide +kernel
theorem d_C_readOn_1 : decode prog_1_method_28_code 1 = .ok (.invokestatic 102, 3) := by decide +kernel
theorem d_C_readOn_4 : decode prog_1_method_28_code 4 = .ok (.ifCond .eq 14, 3) := by decide +kernel
theorem d_C_readOn_18 : decode prog_1_method_28_code 18 = .ok (.iconst (-1), 1) := by decide +kernel
theorem d_C_readOn_19 : decode prog_1_method_28_code 19 = .ok (.ireturn, 1) := by decide +kernel
theorem d_C_readOn_7 : decode prog_1_method_28_code 7 = .ok (.aload_n 0, 1) := by decide +kernel
theorem d_C_readOn_8 : decode prog_1_method_28_code 8 = .ok (.getfield 38, 3) := by decide +kernel
theorem d_C_readOn_11 : decode prog_1_method_28_code 11 = .ok (.iload_n 2, 1) := by decide +kernel
theorem d_C_readOn_12 : decode prog_1_method_28_code 12 = .ok (.invokevirtual 132, 3) := by decide +kernel
theorem d_C_readOn_15 : decode prog_1_method_28_code 15 = .ok (.ifCond .ne 5, 3) := by decide +kernel
theorem d_C_readOn_20 : decode prog_1_method_28_code 20 = .ok (.aload_n 0, 1) := by decide +kernel
theorem d_C_readOn_21 : decode prog_1_method_28_code 21 = .ok (.iload_n 1, 1) := by decide +kernel
theorem d_C_readOn_22 : decode prog_1_method_28_code 22 = .ok (.iload_n 2, 1) := by decide +kernel
theorem d_C_readOn_23 : decode prog_1_method_28_code 23 = .ok (.invokevirtual 268, 3) := by decide +kernel
theorem d_C_readOn_26 : decode prog_1_method_28_code 26 = .ok (.ireturn, 1) := by decide +kernel
theorem d_C_spread_0 : decode prog_1_method_29_code 0 = .ok (.aload_n 0, 1) := by decide +kernel
theorem d_C_spread_1 : decode prog_1_method_29_code 1 = .ok (.getfield 38, 3) := by decide +kernel
theorem d_C_spread_4 : decode prog_1_method_29_code 4 = .ok (.iload_n 1, 1) := by decide +kernel
theorem d_C_spread_5 : decode prog_1_method_29_code 5 = .ok (.invokevirtual 132, 3) := by decide +kernel
theorem d_C_spread_8 : decode prog_1_method_29_code 8 = .ok (.ifCond .eq 14, 3) := by decide +kernel
theorem d_C_spread_22 : decode prog_1_method_29_code 22 = .ok (.iconst (-1), 1) := by decide +kernel
theorem d_C_spread_23 : decode prog_1_method_29_code 23 = .ok (.ireturn, 1) := by decide +kernel
theorem d_C_spread_11 : decode prog_1_method_29_code 11 = .ok (.iload_n 2, 1) := by decide +kernel
theorem d_C_spread_12 : decode prog_1_method_29_code 12 = .ok (.ifCond .lt 10, 3) := by decide +kernel
theorem d_C_spread_15 : decode prog_1_method_29_code 15 = .ok (.iload_n 2, 1) := by decide +kernel
theorem d_C_spread_16 : decode prog_1_method_29_code 16 = .ok (.sipush 999, 3) := by decide +kernel
theorem d_C_spread_19 : decode prog_1_method_29_code 19 = .ok (.if_icmp .le 5, 3) := by decide +kernel
theorem d_C_spread_24 : decode prog_1_method_29_code 24 = .ok (.aload_n 0, 1) := by decide +kernel
theorem d_C_spread_25 : decode prog_1_method_29_code 25 = .ok (.iload_n 1, 1) := by decide +kernel
theorem d_C_spread_26 : decode prog_1_method_29_code 26 = .ok (.iload_n 2, 1) := by decide +kernel
theorem d_C_spread_27 : decode prog_1_method_29_code 27 = .ok (.invokevirtual 265, 3) := by decide +kernel
theorem d_C_spread_30 : decode prog_1_method_29_code 30 = .ok (.ireturn, 1) := by decide +kernel
theorem d_C_all_0 : decode prog_1_method_30_code 0 = .ok (.aload_n 0, 1) := by decide +kernel
theorem d_C_all_1 : decode prog_1_method_30_code 1 = .ok (.getfield 38, 3) := by decide +kernel
theorem d_C_all_4 : decode prog_1_method_30_code 4 = .ok (.iload_n 1, 1) := by decide +kernel
theorem d_C_all_5 : decode prog_1_method_30_code 5 = .ok (.invokevirtual 132, 3) := by decide +kernel
theorem d_C_all_8 : decode prog_1_method_30_code 8 = .ok (.ifCond .ne 5, 3) := by decide +kernel
theorem d_C_all_13 : decode prog_1_method_30_code 13 = .ok (.iconst 0, 1) := by decide +kernel
theorem d_C_all_14 : decode prog_1_method_30_code 14 = .ok (.istore_n 2, 1) := by decide +kernel
theorem d_C_all_15 : decode prog_1_method_30_code 15 = .ok (.iconst 0, 1) := by decide +kernel
theorem d_C_all_16 : decode prog_1_method_30_code 16 = .ok (.istore_n 3, 1) := by decide +kernel
theorem d_C_all_17 : decode prog_1_method_30_code 17 = .ok (.iload_n 3, 1) := by decide +kernel
theorem d_C_all_18 : decode prog_1_method_30_code 18 = .ok (.bipush 6, 2) := by decide +kernel
theorem d_C_all_20 : decode prog_1_method_30_code 20 = .ok (.if_icmp .ge 48, 3) := by decide +kernel
theorem d_C_all_23 : decode prog_1_method_30_code 23 = .ok (.aload_n 0, 1) := by decide +kernel
theorem d_C_all_24 : decode prog_1_method_30_code 24 = .ok (.getfield 38, 3) := by decide +kernel
theorem d_C_all_27 : decode prog_1_method_30_code 27 = .ok (.getfield 181, 3) := by decide +kernel
theorem d_C_all_30 : decode prog_1_method_30_code 30 = .ok (.iload_n 1, 1) := by decide +kernel
theorem d_C_all_31 : decode prog_1_method_30_code 31 = .ok (.iaload, 1) := by decide +kernel
theorem d_C_all_32 : decode prog_1_method_30_code 32 = .ok (.iload_n 3, 1) := by decide +kernel
theorem d_C_all_33 : decode prog_1_method_30_code 33 = .ok (.invokestatic 110, 3) := by decide +kernel
theorem d_C_all_36 : decode prog_1_method_30_code 36 = .ok (.ifCond .eq 26, 3) := by decide +kernel
theorem d_C_all_62 : decode prog_1_method_30_code 62 = .ok (.iinc 3 1, 3) := by decide +kernel
theorem d_C_all_65 : decode prog_1_method_30_code 65 = .ok (.goto (-48), 3) := by decide +kernel
theorem d_C_all_39 : decode prog_1_method_30_code 39 = .ok (.aload_n 0, 1) := by decide +kernel
theorem d_C_all_40 : decode prog_1_method_30_code 40 = .ok (.iload_n 3, 1) := by decide +kernel
theorem d_C_all_41 : decode prog_1_method_30_code 41 = .ok (.iload_n 1, 1) := by decide +kernel
theorem d_C_all_42 : decode prog_1_method_30_code 42 = .ok (.invokevirtual 268, 3) := by decide +kernel
theorem d_C_all_45 : decode prog_1_method_30_code 45 = .ok (.istore 4, 2) := by decide +kernel
theorem d_C_all_47 : decode prog_1_method_30_code 47 = .ok (.iload 4, 2) := by decide +kernel
theorem d_C_all_49 : decode prog_1_method_30_code 49 = .ok (.iconst (-1), 1) := by decide +kernel
theorem d_C_all_50 : decode prog_1_method_30_code 50 = .ok (.if_icmp .ne 5, 3) := by decide +kernel
theorem d_C_all_55 : decode prog_1_method_30_code 55 = .ok (.iload_n 2, 1) := by decide +kernel
theorem d_C_all_56 : decode prog_1_method_30_code 56 = .ok (.iload 4, 2) := by decide +kernel
theorem d_C_all_58 : decode prog_1_method_30_code 58 = .ok (.invokestatic 271, 3) := by decide +kernel
theorem d_C_all_61 : decode prog_1_method_30_code 61 = .ok (.istore_n 2, 1) := by decide +kernel
theorem d_C_all_53 : decode prog_1_method_30_code 53 = .ok (.iconst (-1), 1) := by decide +kernel
theorem d_C_all_54 : decode prog_1_method_30_code 54 = .ok (.ireturn, 1) := by decide +kernel
theorem d_C_all_68 : decode prog_1_method_30_code 68 = .ok (.iload_n 2, 1) := by decide +kernel
theorem d_C_all_69 : decode prog_1_method_30_code 69 = .ok (.ireturn, 1) := by decide +kernel
theorem d_C_all_11 : decode prog_1_method_30_code 11 = .ok (.iconst (-1), 1) := by decide +kernel
theorem d_C_all_12 : decode prog_1_method_30_code 12 = .ok (.ireturn, 1) := by decide +kernel
theorem d_L_isLeft_0 : decode prog_7_method_4_code 0 = .ok (.aload_n 0, 1) := by decide +kernel
theorem d_L_isLeft_1 : decode prog_7_method_4_code 1 = .ok (.iload_n 1, 1) := by decide +kernel
theorem d_L_isLeft_2 : decode prog_7_method_4_code 2 = .ok (.invokevirtual 61, 3) := by decide +kernel
theorem d_L_isLeft_5 : decode prog_7_method_4_code 5 = .ok (.ifCond .eq 18, 3) := by decide +kernel
theorem d_L_isLeft_23 : decode prog_7_method_4_code 23 = .ok (.iconst 0, 1) := by decide +kernel
theorem d_L_isLeft_24 : decode prog_7_method_4_code 24 = .ok (.ireturn, 1) := by decide +kernel
theorem d_L_isLeft_8 : decode prog_7_method_4_code 8 = .ok (.aload_n 0, 1) := by decide +kernel
theorem d_L_isLeft_9 : decode prog_7_method_4_code 9 = .ok (.getfield 65, 3) := by decide +kernel
theorem d_L_isLeft_12 : decode prog_7_method_4_code 12 = .ok (.iload_n 1, 1) := by decide +kernel
theorem d_L_isLeft_13 : decode prog_7_method_4_code 13 = .ok (.invokestatic 68, 3) := by decide +kernel
theorem d_L_isLeft_16 : decode prog_7_method_4_code 16 = .ok (.ifCond .eq 7, 3) := by decide +kernel
theorem d_L_isLeft_19 : decode prog_7_method_4_code 19 = .ok (.iconst 1, 1) := by decide +kernel
theorem d_L_isLeft_20 : decode prog_7_method_4_code 20 = .ok (.goto 4, 3) := by decide +kernel
theorem d_C_burn_0 : decode prog_1_method_31_code 0 = .ok (.aload_n 0, 1) := by decide +kernel
theorem d_C_burn_1 : decode prog_1_method_31_code 1 = .ok (.getfield 38, 3) := by decide +kernel
theorem d_C_burn_4 : decode prog_1_method_31_code 4 = .ok (.iload_n 1, 1) := by decide +kernel
theorem d_C_burn_5 : decode prog_1_method_31_code 5 = .ok (.invokevirtual 276, 3) := by decide +kernel
theorem d_C_burn_8 : decode prog_1_method_31_code 8 = .ok (.ifCond .ne 5, 3) := by decide +kernel
theorem d_C_burn_13 : decode prog_1_method_31_code 13 = .ok (.aload_n 0, 1) := by decide +kernel
theorem d_C_burn_14 : decode prog_1_method_31_code 14 = .ok (.getfield 38, 3) := by decide +kernel
theorem d_C_burn_17 : decode prog_1_method_31_code 17 = .ok (.dup, 1) := by decide +kernel
theorem d_C_burn_18 : decode prog_1_method_31_code 18 = .ok (.getfield 279, 3) := by decide +kernel
theorem d_C_burn_21 : decode prog_1_method_31_code 21 = .ok (.iload_n 1, 1) := by decide +kernel
theorem d_C_burn_22 : decode prog_1_method_31_code 22 = .ok (.invokestatic 262, 3) := by decide +kernel
theorem d_C_burn_25 : decode prog_1_method_31_code 25 = .ok (.iconst (-1), 1) := by decide +kernel
theorem d_C_burn_26 : decode prog_1_method_31_code 26 = .ok (.ixor, 1) := by decide +kernel
theorem d_C_burn_27 : decode prog_1_method_31_code 27 = .ok (.iand, 1) := by decide +kernel
theorem d_C_burn_28 : decode prog_1_method_31_code 28 = .ok (.putfield 279, 3) := by decide +kernel
theorem d_C_burn_31 : decode prog_1_method_31_code 31 = .ok (.aload_n 0, 1) := by decide +kernel
theorem d_C_burn_32 : decode prog_1_method_31_code 32 = .ok (.getfield 38, 3) := by decide +kernel
theorem d_C_burn_35 : decode prog_1_method_31_code 35 = .ok (.getfield 279, 3) := by decide +kernel
theorem d_C_burn_38 : decode prog_1_method_31_code 38 = .ok (.invokestatic 282, 3) := by decide +kernel
theorem d_C_burn_41 : decode prog_1_method_31_code 41 = .ok (.ireturn, 1) := by decide +kernel
theorem d_C_burn_11 : decode prog_1_method_31_code 11 = .ok (.iconst (-1), 1) := by decide +kernel
theorem d_C_burn_12 : decode prog_1_method_31_code 12 = .ok (.ireturn, 1) := by decide +kernel
theorem d_U_mayHaveKnown_0 : decode prog_5_method_2_code 0 = .ok (.aload_n 0, 1) := by decide +kernel
theorem d_U_mayHaveKnown_1 : decode prog_5_method_2_code 1 = .ok (.getfield 9, 3) := by decide +kernel
theorem d_U_mayHaveKnown_4 : decode prog_5_method_2_code 4 = .ok (.getfield 19, 3) := by decide +kernel
theorem d_U_mayHaveKnown_7 : decode prog_5_method_2_code 7 = .ok (.iload_n 1, 1) := by decide +kernel
theorem d_U_mayHaveKnown_8 : decode prog_5_method_2_code 8 = .ok (.iaload, 1) := by decide +kernel
theorem d_U_mayHaveKnown_9 : decode prog_5_method_2_code 9 = .ok (.istore_n 3, 1) := by decide +kernel
theorem d_U_mayHaveKnown_10 : decode prog_5_method_2_code 10 = .ok (.aload_n 0, 1) := by decide +kernel
theorem d_U_mayHaveKnown_11 : decode prog_5_method_2_code 11 = .ok (.getfield 9, 3) := by decide +kernel
theorem d_U_mayHaveKnown_14 : decode prog_5_method_2_code 14 = .ok (.getfield 19, 3) := by decide +kernel
theorem d_U_mayHaveKnown_17 : decode prog_5_method_2_code 17 = .ok (.iload_n 2, 1) := by decide +kernel
theorem d_U_mayHaveKnown_18 : decode prog_5_method_2_code 18 = .ok (.iaload, 1) := by decide +kernel
theorem d_U_mayHaveKnown_19 : decode prog_5_method_2_code 19 = .ok (.istore 4, 2) := by decide +kernel
theorem d_U_mayHaveKnown_21 : decode prog_5_method_2_code 21 = .ok (.iload_n 3, 1) := by decide +kernel
theorem d_U_mayHaveKnown_22 : decode prog_5_method_2_code 22 = .ok (.iload 4, 2) := by decide +kernel
theorem d_U_mayHaveKnown_24 : decode prog_5_method_2_code 24 = .ok (.if_icmp .ne 14, 3) := by decide +kernel
theorem d_U_mayHaveKnown_38 : decode prog_5_method_2_code 38 = .ok (.aload_n 0, 1) := by decide +kernel
theorem d_U_mayHaveKnown_39 : decode prog_5_method_2_code 39 = .ok (.getfield 9, 3) := by decide +kernel
theorem d_U_mayHaveKnown_42 : decode prog_5_method_2_code 42 = .ok (.getfield 25, 3) := by decide +kernel
theorem d_U_mayHaveKnown_45 : decode prog_5_method_2_code 45 = .ok (.iload_n 2, 1) := by decide +kernel
theorem d_U_mayHaveKnown_46 : decode prog_5_method_2_code 46 = .ok (.iaload, 1) := by decide +kernel
theorem d_U_mayHaveKnown_47 : decode prog_5_method_2_code 47 = .ok (.aload_n 0, 1) := by decide +kernel
theorem d_U_mayHaveKnown_48 : decode prog_5_method_2_code 48 = .ok (.getfield 9, 3) := by decide +kernel
theorem d_U_mayHaveKnown_51 : decode prog_5_method_2_code 51 = .ok (.getfield 25, 3) := by decide +kernel
theorem d_U_mayHaveKnown_54 : decode prog_5_method_2_code 54 = .ok (.iload_n 1, 1) := by decide +kernel
theorem d_U_mayHaveKnown_55 : decode prog_5_method_2_code 55 = .ok (.iaload, 1) := by decide +kernel
theorem d_U_mayHaveKnown_56 : decode prog_5_method_2_code 56 = .ok (.isub, 1) := by decide +kernel
theorem d_U_mayHaveKnown_57 : decode prog_5_method_2_code 57 = .ok (.aload_n 0, 1) := by decide +kernel
theorem d_U_mayHaveKnown_58 : decode prog_5_method_2_code 58 = .ok (.getfield 15, 3) := by decide +kernel
theorem d_U_mayHaveKnown_61 : decode prog_5_method_2_code 61 = .ok (.getfield 28, 3) := by decide +kernel
theorem d_U_mayHaveKnown_64 : decode prog_5_method_2_code 64 = .ok (.iload_n 3, 1) := by decide +kernel
theorem d_U_mayHaveKnown_65 : decode prog_5_method_2_code 65 = .ok (.aaload, 1) := by decide +kernel
theorem d_U_mayHaveKnown_66 : decode prog_5_method_2_code 66 = .ok (.iload 4, 2) := by decide +kernel
theorem d_U_mayHaveKnown_68 : decode prog_5_method_2_code 68 = .ok (.iaload, 1) := by decide +kernel
theorem d_U_mayHaveKnown_69 : decode prog_5_method_2_code 69 = .ok (.if_icmp .lt 7, 3) := by decide +kernel
theorem d_U_mayHaveKnown_76 : decode prog_5_method_2_code 76 = .ok (.iconst 0, 1) := by decide +kernel
theorem d_U_mayHaveKnown_77 : decode prog_5_method_2_code 77 = .ok (.ireturn, 1) := by decide +kernel
theorem d_U_mayHaveKnown_72 : decode prog_5_method_2_code 72 = .ok (.iconst 1, 1) := by decide +kernel
theorem d_U_mayHaveKnown_73 : decode prog_5_method_2_code 73 = .ok (.goto 4, 3) := by decide +kernel
theorem d_U_mayHaveKnown_27 : decode prog_5_method_2_code 27 = .ok (.iload_n 1, 1) := by decide +kernel
theorem d_U_mayHaveKnown_28 : decode prog_5_method_2_code 28 = .ok (.iload_n 2, 1) := by decide +kernel
theorem d_U_mayHaveKnown_29 : decode prog_5_method_2_code 29 = .ok (.if_icmp .ge 7, 3) := by decide +kernel
theorem d_U_mayHaveKnown_36 : decode prog_5_method_2_code 36 = .ok (.iconst 0, 1) := by decide +kernel
theorem d_U_mayHaveKnown_37 : decode prog_5_method_2_code 37 = .ok (.ireturn, 1) := by decide +kernel
theorem d_U_mayHaveKnown_32 : decode prog_5_method_2_code 32 = .ok (.iconst 1, 1) := by decide +kernel
theorem d_U_mayHaveKnown_33 : decode prog_5_method_2_code 33 = .ok (.goto 4, 3) := by decide +kernel
theorem d_L_citesThroughLeft_0 : decode prog_7_method_17_code 0 = .ok (.iload_n 1, 1) := by decide +kernel
theorem d_L_citesThroughLeft_1 : decode prog_7_method_17_code 1 = .ok (.invokestatic 72, 3) := by decide +kernel
theorem d_L_citesThroughLeft_4 : decode prog_7_method_17_code 4 = .ok (.istore_n 3, 1) := by decide +kernel
theorem d_L_citesThroughLeft_5 : decode prog_7_method_17_code 5 = .ok (.iload_n 1, 1) := by decide +kernel
theorem d_L_citesThroughLeft_6 : decode prog_7_method_17_code 6 = .ok (.istore 4, 2) := by decide +kernel
theorem d_L_citesThroughLeft_8 : decode prog_7_method_17_code 8 = .ok (.iload 4, 2) := by decide +kernel
theorem d_L_citesThroughLeft_10 : decode prog_7_method_17_code 10 = .ok (.iload_n 2, 1) := by decide +kernel
theorem d_L_citesThroughLeft_11 : decode prog_7_method_17_code 11 = .ok (.if_icmp .le 32, 3) := by decide +kernel
theorem d_L_citesThroughLeft_14 : decode prog_7_method_17_code 14 = .ok (.iload_n 3, 1) := by decide +kernel
theorem d_L_citesThroughLeft_15 : decode prog_7_method_17_code 15 = .ok (.iload 4, 2) := by decide +kernel
theorem d_L_citesThroughLeft_17 : decode prog_7_method_17_code 17 = .ok (.invokestatic 68, 3) := by decide +kernel
theorem d_L_citesThroughLeft_20 : decode prog_7_method_17_code 20 = .ok (.ifCond .eq 17, 3) := by decide +kernel
theorem d_L_citesThroughLeft_37 : decode prog_7_method_17_code 37 = .ok (.iinc 4 (-1), 3) := by decide +kernel
theorem d_L_citesThroughLeft_40 : decode prog_7_method_17_code 40 = .ok (.goto (-32), 3) := by decide +kernel
theorem d_L_citesThroughLeft_23 : decode prog_7_method_17_code 23 = .ok (.iload_n 3, 1) := by decide +kernel
theorem d_L_citesThroughLeft_24 : decode prog_7_method_17_code 24 = .ok (.aload_n 0, 1) := by decide +kernel
theorem d_L_citesThroughLeft_25 : decode prog_7_method_17_code 25 = .ok (.iload 4, 2) := by decide +kernel
theorem d_L_citesThroughLeft_27 : decode prog_7_method_17_code 27 = .ok (.invokevirtual 83, 3) := by decide +kernel
theorem d_L_citesThroughLeft_30 : decode prog_7_method_17_code 30 = .ok (.aload_n 0, 1) := by decide +kernel
theorem d_L_citesThroughLeft_31 : decode prog_7_method_17_code 31 = .ok (.getfield 65, 3) := by decide +kernel
theorem d_L_citesThroughLeft_34 : decode prog_7_method_17_code 34 = .ok (.iand, 1) := by decide +kernel
theorem d_L_citesThroughLeft_35 : decode prog_7_method_17_code 35 = .ok (.ior, 1) := by decide +kernel
theorem d_L_citesThroughLeft_36 : decode prog_7_method_17_code 36 = .ok (.istore_n 3, 1) := by decide +kernel
theorem d_L_citesThroughLeft_43 : decode prog_7_method_17_code 43 = .ok (.iload_n 3, 1) := by decide +kernel
theorem d_L_citesThroughLeft_44 : decode prog_7_method_17_code 44 = .ok (.iload_n 2, 1) := by decide +kernel
theorem d_L_citesThroughLeft_45 : decode prog_7_method_17_code 45 = .ok (.invokestatic 68, 3) := by decide +kernel
theorem d_L_citesThroughLeft_48 : decode prog_7_method_17_code 48 = .ok (.ireturn, 1) := by decide +kernel
theorem d_C_could_0 : decode prog_1_method_32_code 0 = .ok (.iload_n 1, 1) := by decide +kernel
theorem d_C_could_1 : decode prog_1_method_32_code 1 = .ok (.iload_n 2, 1) := by decide +kernel
theorem d_C_could_2 : decode prog_1_method_32_code 2 = .ok (.if_icmp .eq 25, 3) := by decide +kernel
theorem d_C_could_27 : decode prog_1_method_32_code 27 = .ok (.iconst (-1), 1) := by decide +kernel
theorem d_C_could_28 : decode prog_1_method_32_code 28 = .ok (.ireturn, 1) := by decide +kernel
theorem d_C_could_5 : decode prog_1_method_32_code 5 = .ok (.aload_n 0, 1) := by decide +kernel
theorem d_C_could_6 : decode prog_1_method_32_code 6 = .ok (.getfield 38, 3) := by decide +kernel
theorem d_C_could_9 : decode prog_1_method_32_code 9 = .ok (.iload_n 1, 1) := by decide +kernel
theorem d_C_could_10 : decode prog_1_method_32_code 10 = .ok (.invokevirtual 276, 3) := by decide +kernel
theorem d_C_could_13 : decode prog_1_method_32_code 13 = .ok (.ifCond .eq 14, 3) := by decide +kernel
theorem d_C_could_16 : decode prog_1_method_32_code 16 = .ok (.aload_n 0, 1) := by decide +kernel
theorem d_C_could_17 : decode prog_1_method_32_code 17 = .ok (.getfield 38, 3) := by decide +kernel
theorem d_C_could_20 : decode prog_1_method_32_code 20 = .ok (.iload_n 2, 1) := by decide +kernel
theorem d_C_could_21 : decode prog_1_method_32_code 21 = .ok (.invokevirtual 276, 3) := by decide +kernel
theorem d_C_could_24 : decode prog_1_method_32_code 24 = .ok (.ifCond .ne 5, 3) := by decide +kernel
theorem d_C_could_29 : decode prog_1_method_32_code 29 = .ok (.aload_n 0, 1) := by decide +kernel
theorem d_C_could_30 : decode prog_1_method_32_code 30 = .ok (.getfield 38, 3) := by decide +kernel
theorem d_C_could_33 : decode prog_1_method_32_code 33 = .ok (.iload_n 2, 1) := by decide +kernel
theorem d_C_could_34 : decode prog_1_method_32_code 34 = .ok (.iload_n 1, 1) := by decide +kernel
theorem d_C_could_35 : decode prog_1_method_32_code 35 = .ok (.invokevirtual 287, 3) := by decide +kernel
theorem d_C_could_38 : decode prog_1_method_32_code 38 = .ok (.ifCond .eq 5, 3) := by decide +kernel
theorem d_C_could_43 : decode prog_1_method_32_code 43 = .ok (.aload_n 0, 1) := by decide +kernel
theorem d_C_could_44 : decode prog_1_method_32_code 44 = .ok (.getfield 61, 3) := by decide +kernel
theorem d_C_could_47 : decode prog_1_method_32_code 47 = .ok (.iload_n 1, 1) := by decide +kernel
theorem d_C_could_48 : decode prog_1_method_32_code 48 = .ok (.iload_n 2, 1) := by decide +kernel
theorem d_C_could_49 : decode prog_1_method_32_code 49 = .ok (.invokevirtual 290, 3) := by decide +kernel
theorem d_C_could_52 : decode prog_1_method_32_code 52 = .ok (.invokestatic 237, 3) := by decide +kernel
theorem d_C_could_55 : decode prog_1_method_32_code 55 = .ok (.ireturn, 1) := by decide +kernel
theorem d_C_could_41 : decode prog_1_method_32_code 41 = .ok (.iconst 2, 1) := by decide +kernel
theorem d_C_could_42 : decode prog_1_method_32_code 42 = .ok (.ireturn, 1) := by decide +kernel
theorem d_U_numberIn_0 : decode prog_5_method_4_code 0 = .ok (.iload_n 0, 1) := by decide +kernel
theorem d_U_numberIn_1 : decode prog_5_method_4_code 1 = .ok (.iconst 5, 1) := by decide +kernel
theorem d_U_numberIn_2 : decode prog_5_method_4_code 2 = .ok (.iload_n 1, 1) := by decide +kernel
theorem d_U_numberIn_3 : decode prog_5_method_4_code 3 = .ok (.imul, 1) := by decide +kernel
theorem d_U_numberIn_4 : decode prog_5_method_4_code 4 = .ok (.ishr, 1) := by decide +kernel
theorem d_U_numberIn_5 : decode prog_5_method_4_code 5 = .ok (.bipush 31, 2) := by decide +kernel
theorem d_U_numberIn_7 : decode prog_5_method_4_code 7 = .ok (.iand, 1) := by decide +kernel
theorem d_U_numberIn_8 : decode prog_5_method_4_code 8 = .ok (.ireturn, 1) := by decide +kernel
theorem d_U_bearsMore_0 : decode prog_5_method_8_code 0 = .ok (.iconst 0, 1) := by decide +kernel
theorem d_U_bearsMore_1 : decode prog_5_method_8_code 1 = .ok (.istore_n 3, 1) := by decide +kernel
theorem d_U_bearsMore_2 : decode prog_5_method_8_code 2 = .ok (.iload_n 3, 1) := by decide +kernel
theorem d_U_bearsMore_3 : decode prog_5_method_8_code 3 = .ok (.bipush 6, 2) := by decide +kernel
theorem d_U_bearsMore_5 : decode prog_5_method_8_code 5 = .ok (.if_icmp .ge 28, 3) := by decide +kernel
theorem d_U_bearsMore_8 : decode prog_5_method_8_code 8 = .ok (.aload_n 0, 1) := by decide +kernel
theorem d_U_bearsMore_9 : decode prog_5_method_8_code 9 = .ok (.getfield 9, 3) := by decide +kernel
theorem d_U_bearsMore_12 : decode prog_5_method_8_code 12 = .ok (.iload_n 1, 1) := by decide +kernel
theorem d_U_bearsMore_13 : decode prog_5_method_8_code 13 = .ok (.iload_n 3, 1) := by decide +kernel
theorem d_U_bearsMore_14 : decode prog_5_method_8_code 14 = .ok (.invokevirtual 62, 3) := by decide +kernel
theorem d_U_bearsMore_17 : decode prog_5_method_8_code 17 = .ok (.iload_n 2, 1) := by decide +kernel
theorem d_U_bearsMore_18 : decode prog_5_method_8_code 18 = .ok (.iload_n 3, 1) := by decide +kernel
theorem d_U_bearsMore_19 : decode prog_5_method_8_code 19 = .ok (.invokestatic 52, 3) := by decide +kernel
theorem d_U_bearsMore_22 : decode prog_5_method_8_code 22 = .ok (.if_icmp .le 5, 3) := by decide +kernel
theorem d_U_bearsMore_27 : decode prog_5_method_8_code 27 = .ok (.iinc 3 1, 3) := by decide +kernel
theorem d_U_bearsMore_30 : decode prog_5_method_8_code 30 = .ok (.goto (-28), 3) := by decide +kernel
theorem d_U_bearsMore_25 : decode prog_5_method_8_code 25 = .ok (.iconst 1, 1) := by decide +kernel
theorem d_U_bearsMore_26 : decode prog_5_method_8_code 26 = .ok (.ireturn, 1) := by decide +kernel
theorem d_U_bearsMore_33 : decode prog_5_method_8_code 33 = .ok (.iconst 0, 1) := by decide +kernel
theorem d_U_bearsMore_34 : decode prog_5_method_8_code 34 = .ok (.ireturn, 1) := by decide +kernel
theorem d_L_ofWriter_0 : decode prog_7_method_21_code 0 = .ok (.iconst 0, 1) := by decide +kernel
theorem d_L_ofWriter_1 : decode prog_7_method_21_code 1 = .ok (.istore_n 3, 1) := by decide +kernel
theorem d_L_ofWriter_2 : decode prog_7_method_21_code 2 = .ok (.iconst 0, 1) := by decide +kernel
theorem d_L_ofWriter_3 : decode prog_7_method_21_code 3 = .ok (.istore 4, 2) := by decide +kernel
theorem d_L_ofWriter_5 : decode prog_7_method_21_code 5 = .ok (.iload 4, 2) := by decide +kernel
theorem d_L_ofWriter_7 : decode prog_7_method_21_code 7 = .ok (.aload_n 0, 1) := by decide +kernel
theorem d_L_ofWriter_8 : decode prog_7_method_21_code 8 = .ok (.getfield 57, 3) := by decide +kernel
theorem d_L_ofWriter_11 : decode prog_7_method_21_code 11 = .ok (.if_icmp .ge 31, 3) := by decide +kernel
theorem d_L_ofWriter_14 : decode prog_7_method_21_code 14 = .ok (.aload_n 0, 1) := by decide +kernel
theorem d_L_ofWriter_15 : decode prog_7_method_21_code 15 = .ok (.getfield 9, 3) := by decide +kernel
theorem d_L_ofWriter_18 : decode prog_7_method_21_code 18 = .ok (.iload 4, 2) := by decide +kernel
theorem d_L_ofWriter_20 : decode prog_7_method_21_code 20 = .ok (.iaload, 1) := by decide +kernel
theorem d_L_ofWriter_21 : decode prog_7_method_21_code 21 = .ok (.iload_n 1, 1) := by decide +kernel
theorem d_L_ofWriter_22 : decode prog_7_method_21_code 22 = .ok (.if_icmp .ne 14, 3) := by decide +kernel
theorem d_L_ofWriter_36 : decode prog_7_method_21_code 36 = .ok (.iinc 4 1, 3) := by decide +kernel
theorem d_L_ofWriter_39 : decode prog_7_method_21_code 39 = .ok (.goto (-34), 3) := by decide +kernel
theorem d_L_ofWriter_25 : decode prog_7_method_21_code 25 = .ok (.iinc 3 1, 3) := by decide +kernel
theorem d_L_ofWriter_28 : decode prog_7_method_21_code 28 = .ok (.iload_n 3, 1) := by decide +kernel
theorem d_L_ofWriter_29 : decode prog_7_method_21_code 29 = .ok (.iload_n 2, 1) := by decide +kernel
theorem d_L_ofWriter_30 : decode prog_7_method_21_code 30 = .ok (.if_icmp .ne 6, 3) := by decide +kernel
theorem d_L_ofWriter_33 : decode prog_7_method_21_code 33 = .ok (.iload 4, 2) := by decide +kernel
theorem d_L_ofWriter_35 : decode prog_7_method_21_code 35 = .ok (.ireturn, 1) := by decide +kernel
theorem d_L_ofWriter_42 : decode prog_7_method_21_code 42 = .ok (.iconst (-1), 1) := by decide +kernel
theorem d_L_ofWriter_43 : decode prog_7_method_21_code 43 = .ok (.ireturn, 1) := by decide +kernel
theorem d_U_doesLack_0 : decode prog_5_method_6_code 0 = .ok (.iconst 0, 1) := by decide +kernel
theorem d_U_doesLack_1 : decode prog_5_method_6_code 1 = .ok (.istore 4, 2) := by decide +kernel
theorem d_U_doesLack_3 : decode prog_5_method_6_code 3 = .ok (.iload 4, 2) := by decide +kernel
theorem d_U_doesLack_5 : decode prog_5_method_6_code 5 = .ok (.bipush 6, 2) := by decide +kernel
theorem d_U_doesLack_7 : decode prog_5_method_6_code 7 = .ok (.if_icmp .ge 76, 3) := by decide +kernel
theorem d_U_doesLack_10 : decode prog_5_method_6_code 10 = .ok (.aload_n 0, 1) := by decide +kernel
theorem d_U_doesLack_11 : decode prog_5_method_6_code 11 = .ok (.getfield 9, 3) := by decide +kernel
theorem d_U_doesLack_14 : decode prog_5_method_6_code 14 = .ok (.iload 4, 2) := by decide +kernel
theorem d_U_doesLack_16 : decode prog_5_method_6_code 16 = .ok (.iload_n 3, 1) := by decide +kernel
theorem d_U_doesLack_17 : decode prog_5_method_6_code 17 = .ok (.iload 4, 2) := by decide +kernel
theorem d_U_doesLack_19 : decode prog_5_method_6_code 19 = .ok (.invokestatic 52, 3) := by decide +kernel
theorem d_U_doesLack_22 : decode prog_5_method_6_code 22 = .ok (.invokevirtual 55, 3) := by decide +kernel
theorem d_U_doesLack_25 : decode prog_5_method_6_code 25 = .ok (.istore 5, 2) := by decide +kernel
theorem d_U_doesLack_27 : decode prog_5_method_6_code 27 = .ok (.iload 5, 2) := by decide +kernel
theorem d_U_doesLack_29 : decode prog_5_method_6_code 29 = .ok (.iconst (-1), 1) := by decide +kernel
theorem d_U_doesLack_30 : decode prog_5_method_6_code 30 = .ok (.if_icmp .eq 27, 3) := by decide +kernel
theorem d_U_doesLack_57 : decode prog_5_method_6_code 57 = .ok (.iconst 0, 1) := by decide +kernel
theorem d_U_doesLack_58 : decode prog_5_method_6_code 58 = .ok (.istore 6, 2) := by decide +kernel
theorem d_U_doesLack_60 : decode prog_5_method_6_code 60 = .ok (.iload 6, 2) := by decide +kernel
theorem d_U_doesLack_62 : decode prog_5_method_6_code 62 = .ok (.ifCond .eq 15, 3) := by decide +kernel
theorem d_U_doesLack_77 : decode prog_5_method_6_code 77 = .ok (.iinc 4 1, 3) := by decide +kernel
theorem d_U_doesLack_80 : decode prog_5_method_6_code 80 = .ok (.goto (-77), 3) := by decide +kernel
theorem d_U_doesLack_65 : decode prog_5_method_6_code 65 = .ok (.aload_n 0, 1) := by decide +kernel
theorem d_U_doesLack_66 : decode prog_5_method_6_code 66 = .ok (.iload 5, 2) := by decide +kernel
theorem d_U_doesLack_68 : decode prog_5_method_6_code 68 = .ok (.iload_n 3, 1) := by decide +kernel
theorem d_U_doesLack_69 : decode prog_5_method_6_code 69 = .ok (.invokevirtual 58, 3) := by decide +kernel
theorem d_U_doesLack_72 : decode prog_5_method_6_code 72 = .ok (.ifCond .eq 5, 3) := by decide +kernel
theorem d_U_doesLack_33 : decode prog_5_method_6_code 33 = .ok (.iload 4, 2) := by decide +kernel
theorem d_U_doesLack_35 : decode prog_5_method_6_code 35 = .ok (.iload_n 1, 1) := by decide +kernel
theorem d_U_doesLack_36 : decode prog_5_method_6_code 36 = .ok (.if_icmp .ne 17, 3) := by decide +kernel
theorem d_U_doesLack_53 : decode prog_5_method_6_code 53 = .ok (.iconst 1, 1) := by decide +kernel
theorem d_U_doesLack_54 : decode prog_5_method_6_code 54 = .ok (.goto 4, 3) := by decide +kernel
theorem d_U_doesLack_39 : decode prog_5_method_6_code 39 = .ok (.aload_n 0, 1) := by decide +kernel
theorem d_U_doesLack_40 : decode prog_5_method_6_code 40 = .ok (.getfield 9, 3) := by decide +kernel
theorem d_U_doesLack_43 : decode prog_5_method_6_code 43 = .ok (.getfield 25, 3) := by decide +kernel
theorem d_U_doesLack_46 : decode prog_5_method_6_code 46 = .ok (.iload 5, 2) := by decide +kernel
theorem d_U_doesLack_48 : decode prog_5_method_6_code 48 = .ok (.iaload, 1) := by decide +kernel
theorem d_U_doesLack_49 : decode prog_5_method_6_code 49 = .ok (.iload_n 2, 1) := by decide +kernel
theorem d_U_doesLack_50 : decode prog_5_method_6_code 50 = .ok (.if_icmp .gt 7, 3) := by decide +kernel
theorem d_U_doesLack_75 : decode prog_5_method_6_code 75 = .ok (.iconst 1, 1) := by decide +kernel
theorem d_U_doesLack_76 : decode prog_5_method_6_code 76 = .ok (.ireturn, 1) := by decide +kernel
theorem d_U_doesLack_83 : decode prog_5_method_6_code 83 = .ok (.iconst 0, 1) := by decide +kernel
theorem d_U_doesLack_84 : decode prog_5_method_6_code 84 = .ok (.ireturn, 1) := by decide +kernel
theorem d_L_writtenBy_0 : decode prog_7_method_20_code 0 = .ok (.iconst 0, 1) := by decide +kernel
theorem d_L_writtenBy_1 : decode prog_7_method_20_code 1 = .ok (.istore_n 3, 1) := by decide +kernel
theorem d_L_writtenBy_2 : decode prog_7_method_20_code 2 = .ok (.iconst 0, 1) := by decide +kernel
theorem d_L_writtenBy_3 : decode prog_7_method_20_code 3 = .ok (.istore 4, 2) := by decide +kernel
theorem d_L_writtenBy_5 : decode prog_7_method_20_code 5 = .ok (.iload 4, 2) := by decide +kernel
theorem d_L_writtenBy_7 : decode prog_7_method_20_code 7 = .ok (.aload_n 0, 1) := by decide +kernel
theorem d_L_writtenBy_8 : decode prog_7_method_20_code 8 = .ok (.getfield 57, 3) := by decide +kernel
theorem d_L_writtenBy_11 : decode prog_7_method_20_code 11 = .ok (.if_icmp .ge 34, 3) := by decide +kernel
theorem d_L_writtenBy_14 : decode prog_7_method_20_code 14 = .ok (.aload_n 0, 1) := by decide +kernel
theorem d_L_writtenBy_15 : decode prog_7_method_20_code 15 = .ok (.getfield 9, 3) := by decide +kernel
theorem d_L_writtenBy_18 : decode prog_7_method_20_code 18 = .ok (.iload 4, 2) := by decide +kernel
theorem d_L_writtenBy_20 : decode prog_7_method_20_code 20 = .ok (.iaload, 1) := by decide +kernel
theorem d_L_writtenBy_21 : decode prog_7_method_20_code 21 = .ok (.iload_n 1, 1) := by decide +kernel
theorem d_L_writtenBy_22 : decode prog_7_method_20_code 22 = .ok (.if_icmp .ne 17, 3) := by decide +kernel
theorem d_L_writtenBy_39 : decode prog_7_method_20_code 39 = .ok (.iinc 4 1, 3) := by decide +kernel
theorem d_L_writtenBy_42 : decode prog_7_method_20_code 42 = .ok (.goto (-37), 3) := by decide +kernel
theorem d_L_writtenBy_25 : decode prog_7_method_20_code 25 = .ok (.aload_n 0, 1) := by decide +kernel
theorem d_L_writtenBy_26 : decode prog_7_method_20_code 26 = .ok (.getfield 15, 3) := by decide +kernel
theorem d_L_writtenBy_29 : decode prog_7_method_20_code 29 = .ok (.iload 4, 2) := by decide +kernel
theorem d_L_writtenBy_31 : decode prog_7_method_20_code 31 = .ok (.iaload, 1) := by decide +kernel
theorem d_L_writtenBy_32 : decode prog_7_method_20_code 32 = .ok (.iload_n 2, 1) := by decide +kernel
theorem d_L_writtenBy_33 : decode prog_7_method_20_code 33 = .ok (.if_icmp .gt 6, 3) := by decide +kernel
theorem d_L_writtenBy_36 : decode prog_7_method_20_code 36 = .ok (.iinc 3 1, 3) := by decide +kernel
theorem d_L_writtenBy_45 : decode prog_7_method_20_code 45 = .ok (.iload_n 3, 1) := by decide +kernel
theorem d_L_writtenBy_46 : decode prog_7_method_20_code 46 = .ok (.ireturn, 1) := by decide +kernel
theorem d_U_goesBack_0 : decode prog_5_method_7_code 0 = .ok (.aload_n 0, 1) := by decide +kernel
theorem d_U_goesBack_1 : decode prog_5_method_7_code 1 = .ok (.getfield 9, 3) := by decide +kernel
theorem d_U_goesBack_4 : decode prog_5_method_7_code 4 = .ok (.iload_n 1, 1) := by decide +kernel
theorem d_U_goesBack_5 : decode prog_5_method_7_code 5 = .ok (.aload_n 0, 1) := by decide +kernel
theorem d_U_goesBack_6 : decode prog_5_method_7_code 6 = .ok (.getfield 9, 3) := by decide +kernel
theorem d_U_goesBack_9 : decode prog_5_method_7_code 9 = .ok (.iload_n 1, 1) := by decide +kernel
theorem d_U_goesBack_10 : decode prog_5_method_7_code 10 = .ok (.iload_n 2, 1) := by decide +kernel
theorem d_U_goesBack_11 : decode prog_5_method_7_code 11 = .ok (.invokevirtual 44, 3) := by decide +kernel
theorem d_U_goesBack_14 : decode prog_5_method_7_code 14 = .ok (.invokevirtual 55, 3) := by decide +kernel
theorem d_U_goesBack_17 : decode prog_5_method_7_code 17 = .ok (.istore 4, 2) := by decide +kernel
theorem d_U_goesBack_19 : decode prog_5_method_7_code 19 = .ok (.iload 4, 2) := by decide +kernel
theorem d_U_goesBack_21 : decode prog_5_method_7_code 21 = .ok (.iconst (-1), 1) := by decide +kernel
theorem d_U_goesBack_22 : decode prog_5_method_7_code 22 = .ok (.if_icmp .eq 17, 3) := by decide +kernel
theorem d_U_goesBack_39 : decode prog_5_method_7_code 39 = .ok (.iconst 0, 1) := by decide +kernel
theorem d_U_goesBack_40 : decode prog_5_method_7_code 40 = .ok (.ireturn, 1) := by decide +kernel
theorem d_U_goesBack_25 : decode prog_5_method_7_code 25 = .ok (.aload_n 0, 1) := by decide +kernel
theorem d_U_goesBack_26 : decode prog_5_method_7_code 26 = .ok (.iload 4, 2) := by decide +kernel
theorem d_U_goesBack_28 : decode prog_5_method_7_code 28 = .ok (.iload_n 3, 1) := by decide +kernel
theorem d_U_goesBack_29 : decode prog_5_method_7_code 29 = .ok (.invokevirtual 58, 3) := by decide +kernel
theorem d_U_goesBack_32 : decode prog_5_method_7_code 32 = .ok (.ifCond .eq 7, 3) := by decide +kernel
theorem d_U_goesBack_35 : decode prog_5_method_7_code 35 = .ok (.iconst 1, 1) := by decide +kernel
theorem d_U_goesBack_36 : decode prog_5_method_7_code 36 = .ok (.goto 4, 3) := by decide +kernel
theorem d_U_isTooMuch_0 : decode prog_5_method_5_code 0 = .ok (.iconst 0, 1) := by decide +kernel
theorem d_U_isTooMuch_1 : decode prog_5_method_5_code 1 = .ok (.istore 4, 2) := by decide +kernel
theorem d_U_isTooMuch_3 : decode prog_5_method_5_code 3 = .ok (.iload 4, 2) := by decide +kernel
theorem d_U_isTooMuch_5 : decode prog_5_method_5_code 5 = .ok (.bipush 6, 2) := by decide +kernel
theorem d_U_isTooMuch_7 : decode prog_5_method_5_code 7 = .ok (.if_icmp .ge 62, 3) := by decide +kernel
theorem d_U_isTooMuch_10 : decode prog_5_method_5_code 10 = .ok (.aload_n 0, 1) := by decide +kernel
theorem d_U_isTooMuch_11 : decode prog_5_method_5_code 11 = .ok (.getfield 9, 3) := by decide +kernel
theorem d_U_isTooMuch_14 : decode prog_5_method_5_code 14 = .ok (.iload 4, 2) := by decide +kernel
theorem d_U_isTooMuch_16 : decode prog_5_method_5_code 16 = .ok (.iload_n 2, 1) := by decide +kernel
theorem d_U_isTooMuch_17 : decode prog_5_method_5_code 17 = .ok (.aload_n 0, 1) := by decide +kernel
theorem d_U_isTooMuch_18 : decode prog_5_method_5_code 18 = .ok (.getfield 15, 3) := by decide +kernel
theorem d_U_isTooMuch_21 : decode prog_5_method_5_code 21 = .ok (.getfield 28, 3) := by decide +kernel
theorem d_U_isTooMuch_24 : decode prog_5_method_5_code 24 = .ok (.iload 4, 2) := by decide +kernel
theorem d_U_isTooMuch_26 : decode prog_5_method_5_code 26 = .ok (.aaload, 1) := by decide +kernel
theorem d_U_isTooMuch_27 : decode prog_5_method_5_code 27 = .ok (.iload_n 1, 1) := by decide +kernel
theorem d_U_isTooMuch_28 : decode prog_5_method_5_code 28 = .ok (.iaload, 1) := by decide +kernel
theorem d_U_isTooMuch_29 : decode prog_5_method_5_code 29 = .ok (.isub, 1) := by decide +kernel
theorem d_U_isTooMuch_30 : decode prog_5_method_5_code 30 = .ok (.invokevirtual 44, 3) := by decide +kernel
theorem d_U_isTooMuch_33 : decode prog_5_method_5_code 33 = .ok (.iload 4, 2) := by decide +kernel
theorem d_U_isTooMuch_35 : decode prog_5_method_5_code 35 = .ok (.iload_n 1, 1) := by decide +kernel
theorem d_U_isTooMuch_36 : decode prog_5_method_5_code 36 = .ok (.if_icmp .ne 7, 3) := by decide +kernel
theorem d_U_isTooMuch_43 : decode prog_5_method_5_code 43 = .ok (.iconst 0, 1) := by decide +kernel
theorem d_U_isTooMuch_44 : decode prog_5_method_5_code 44 = .ok (.invokestatic 48, 3) := by decide +kernel
theorem d_U_isTooMuch_47 : decode prog_5_method_5_code 47 = .ok (.iadd, 1) := by decide +kernel
theorem d_U_isTooMuch_48 : decode prog_5_method_5_code 48 = .ok (.istore 5, 2) := by decide +kernel
theorem d_U_isTooMuch_50 : decode prog_5_method_5_code 50 = .ok (.iload_n 3, 1) := by decide +kernel
theorem d_U_isTooMuch_51 : decode prog_5_method_5_code 51 = .ok (.iload 4, 2) := by decide +kernel
theorem d_U_isTooMuch_53 : decode prog_5_method_5_code 53 = .ok (.invokestatic 52, 3) := by decide +kernel
theorem d_U_isTooMuch_56 : decode prog_5_method_5_code 56 = .ok (.iload 5, 2) := by decide +kernel
theorem d_U_isTooMuch_58 : decode prog_5_method_5_code 58 = .ok (.if_icmp .le 5, 3) := by decide +kernel
theorem d_U_isTooMuch_63 : decode prog_5_method_5_code 63 = .ok (.iinc 4 1, 3) := by decide +kernel
theorem d_U_isTooMuch_66 : decode prog_5_method_5_code 66 = .ok (.goto (-63), 3) := by decide +kernel
theorem d_U_isTooMuch_39 : decode prog_5_method_5_code 39 = .ok (.iconst 1, 1) := by decide +kernel
theorem d_U_isTooMuch_40 : decode prog_5_method_5_code 40 = .ok (.goto 4, 3) := by decide +kernel
theorem d_U_isTooMuch_61 : decode prog_5_method_5_code 61 = .ok (.iconst 1, 1) := by decide +kernel
theorem d_U_isTooMuch_62 : decode prog_5_method_5_code 62 = .ok (.ireturn, 1) := by decide +kernel
theorem d_U_isTooMuch_69 : decode prog_5_method_5_code 69 = .ok (.iconst 0, 1) := by decide +kernel
theorem d_U_isTooMuch_70 : decode prog_5_method_5_code 70 = .ok (.ireturn, 1) := by decide +kernel
theorem d_U_verdict_0 : decode prog_5_method_3_code 0 = .ok (.aload_n 0, 1) := by decide +kernel
theorem d_U_verdict_1 : decode prog_5_method_3_code 1 = .ok (.iload_n 1, 1) := by decide +kernel
theorem d_U_verdict_2 : decode prog_5_method_3_code 2 = .ok (.iload_n 2, 1) := by decide +kernel
theorem d_U_verdict_3 : decode prog_5_method_3_code 3 = .ok (.iload_n 3, 1) := by decide +kernel
theorem d_U_verdict_4 : decode prog_5_method_3_code 4 = .ok (.invokevirtual 34, 3) := by decide +kernel
theorem d_U_verdict_7 : decode prog_5_method_3_code 7 = .ok (.ifCond .eq 5, 3) := by decide +kernel
theorem d_U_verdict_12 : decode prog_5_method_3_code 12 = .ok (.aload_n 0, 1) := by decide +kernel
theorem d_U_verdict_13 : decode prog_5_method_3_code 13 = .ok (.iload_n 1, 1) := by decide +kernel
theorem d_U_verdict_14 : decode prog_5_method_3_code 14 = .ok (.iload_n 2, 1) := by decide +kernel
theorem d_U_verdict_15 : decode prog_5_method_3_code 15 = .ok (.iload_n 3, 1) := by decide +kernel
theorem d_U_verdict_16 : decode prog_5_method_3_code 16 = .ok (.invokevirtual 38, 3) := by decide +kernel
theorem d_U_verdict_19 : decode prog_5_method_3_code 19 = .ok (.ifCond .eq 5, 3) := by decide +kernel
theorem d_U_verdict_24 : decode prog_5_method_3_code 24 = .ok (.aload_n 0, 1) := by decide +kernel
theorem d_U_verdict_25 : decode prog_5_method_3_code 25 = .ok (.iload_n 1, 1) := by decide +kernel
theorem d_U_verdict_26 : decode prog_5_method_3_code 26 = .ok (.iload_n 2, 1) := by decide +kernel
theorem d_U_verdict_27 : decode prog_5_method_3_code 27 = .ok (.iload_n 3, 1) := by decide +kernel
theorem d_U_verdict_28 : decode prog_5_method_3_code 28 = .ok (.invokevirtual 41, 3) := by decide +kernel
theorem d_U_verdict_31 : decode prog_5_method_3_code 31 = .ok (.ifCond .eq 7, 3) := by decide +kernel
theorem d_U_verdict_38 : decode prog_5_method_3_code 38 = .ok (.iconst 0, 1) := by decide +kernel
theorem d_U_verdict_39 : decode prog_5_method_3_code 39 = .ok (.ireturn, 1) := by decide +kernel
theorem d_U_verdict_34 : decode prog_5_method_3_code 34 = .ok (.iconst 3, 1) := by decide +kernel
theorem d_U_verdict_35 : decode prog_5_method_3_code 35 = .ok (.goto 4, 3) := by decide +kernel
theorem d_U_verdict_22 : decode prog_5_method_3_code 22 = .ok (.iconst 2, 1) := by decide +kernel
theorem d_U_verdict_23 : decode prog_5_method_3_code 23 = .ok (.ireturn, 1) := by decide +kernel
theorem d_U_verdict_10 : decode prog_5_method_3_code 10 = .ok (.iconst 1, 1) := by decide +kernel
theorem d_U_verdict_11 : decode prog_5_method_3_code 11 = .ok (.ireturn, 1) := by decide +kernel
theorem d_C_forged_0 : decode prog_1_method_33_code 0 = .ok (.iload_n 1, 1) := by decide +kernel
theorem d_C_forged_1 : decode prog_1_method_33_code 1 = .ok (.invokestatic 102, 3) := by decide +kernel
theorem d_C_forged_4 : decode prog_1_method_33_code 4 = .ok (.ifCond .eq 19, 3) := by decide +kernel
theorem d_C_forged_23 : decode prog_1_method_33_code 23 = .ok (.iconst (-1), 1) := by decide +kernel
theorem d_C_forged_24 : decode prog_1_method_33_code 24 = .ok (.ireturn, 1) := by decide +kernel
theorem d_C_forged_7 : decode prog_1_method_33_code 7 = .ok (.iload_n 2, 1) := by decide +kernel
theorem d_C_forged_8 : decode prog_1_method_33_code 8 = .ok (.ifCond .lt 15, 3) := by decide +kernel
theorem d_C_forged_11 : decode prog_1_method_33_code 11 = .ok (.iload_n 2, 1) := by decide +kernel
theorem d_C_forged_12 : decode prog_1_method_33_code 12 = .ok (.aload_n 0, 1) := by decide +kernel
theorem d_C_forged_13 : decode prog_1_method_33_code 13 = .ok (.getfield 139, 3) := by decide +kernel
theorem d_C_forged_16 : decode prog_1_method_33_code 16 = .ok (.if_icmp .gt 7, 3) := by decide +kernel
theorem d_C_forged_19 : decode prog_1_method_33_code 19 = .ok (.iload_n 3, 1) := by decide +kernel
theorem d_C_forged_20 : decode prog_1_method_33_code 20 = .ok (.ifCond .ge 5, 3) := by decide +kernel
theorem d_C_forged_25 : decode prog_1_method_33_code 25 = .ok (.aload_n 0, 1) := by decide +kernel
theorem d_C_forged_26 : decode prog_1_method_33_code 26 = .ok (.getfield 61, 3) := by decide +kernel
theorem d_C_forged_29 : decode prog_1_method_33_code 29 = .ok (.iload_n 1, 1) := by decide +kernel
theorem d_C_forged_30 : decode prog_1_method_33_code 30 = .ok (.iload_n 2, 1) := by decide +kernel
theorem d_C_forged_31 : decode prog_1_method_33_code 31 = .ok (.iload_n 3, 1) := by decide +kernel
theorem d_C_forged_32 : decode prog_1_method_33_code 32 = .ok (.invokevirtual 293, 3) := by decide +kernel
theorem d_C_forged_35 : decode prog_1_method_33_code 35 = .ok (.ireturn, 1) := by decide +kernel
theorem d_C_forgers_0 : decode prog_1_method_34_code 0 = .ok (.iload_n 1, 1) := by decide +kernel
theorem d_C_forgers_1 : decode prog_1_method_34_code 1 = .ok (.ifCond .lt 15, 3) := by decide +kernel
theorem d_C_forgers_16 : decode prog_1_method_34_code 16 = .ok (.iconst (-1), 1) := by decide +kernel
theorem d_C_forgers_17 : decode prog_1_method_34_code 17 = .ok (.ireturn, 1) := by decide +kernel
theorem d_C_forgers_4 : decode prog_1_method_34_code 4 = .ok (.iload_n 1, 1) := by decide +kernel
theorem d_C_forgers_5 : decode prog_1_method_34_code 5 = .ok (.aload_n 0, 1) := by decide +kernel
theorem d_C_forgers_6 : decode prog_1_method_34_code 6 = .ok (.getfield 139, 3) := by decide +kernel
theorem d_C_forgers_9 : decode prog_1_method_34_code 9 = .ok (.if_icmp .gt 7, 3) := by decide +kernel
theorem d_C_forgers_12 : decode prog_1_method_34_code 12 = .ok (.iload_n 2, 1) := by decide +kernel
theorem d_C_forgers_13 : decode prog_1_method_34_code 13 = .ok (.ifCond .ge 5, 3) := by decide +kernel
theorem d_C_forgers_18 : decode prog_1_method_34_code 18 = .ok (.iconst 0, 1) := by decide +kernel
theorem d_C_forgers_19 : decode prog_1_method_34_code 19 = .ok (.istore_n 3, 1) := by decide +kernel
theorem d_C_forgers_20 : decode prog_1_method_34_code 20 = .ok (.iconst 0, 1) := by decide +kernel
theorem d_C_forgers_21 : decode prog_1_method_34_code 21 = .ok (.istore 4, 2) := by decide +kernel
theorem d_C_forgers_23 : decode prog_1_method_34_code 23 = .ok (.iload 4, 2) := by decide +kernel
theorem d_C_forgers_25 : decode prog_1_method_34_code 25 = .ok (.bipush 6, 2) := by decide +kernel
theorem d_C_forgers_27 : decode prog_1_method_34_code 27 = .ok (.if_icmp .ge 31, 3) := by decide +kernel
theorem d_C_forgers_30 : decode prog_1_method_34_code 30 = .ok (.aload_n 0, 1) := by decide +kernel
theorem d_C_forgers_31 : decode prog_1_method_34_code 31 = .ok (.getfield 61, 3) := by decide +kernel
theorem d_C_forgers_34 : decode prog_1_method_34_code 34 = .ok (.iload 4, 2) := by decide +kernel
theorem d_C_forgers_36 : decode prog_1_method_34_code 36 = .ok (.iload_n 1, 1) := by decide +kernel
theorem d_C_forgers_37 : decode prog_1_method_34_code 37 = .ok (.iload_n 2, 1) := by decide +kernel
theorem d_C_forgers_38 : decode prog_1_method_34_code 38 = .ok (.invokevirtual 293, 3) := by decide +kernel
theorem d_C_forgers_41 : decode prog_1_method_34_code 41 = .ok (.ifCond .ne 11, 3) := by decide +kernel
theorem d_C_forgers_52 : decode prog_1_method_34_code 52 = .ok (.iinc 4 1, 3) := by decide +kernel
theorem d_C_forgers_55 : decode prog_1_method_34_code 55 = .ok (.goto (-32), 3) := by decide +kernel
theorem d_C_forgers_44 : decode prog_1_method_34_code 44 = .ok (.iload_n 3, 1) := by decide +kernel
theorem d_C_forgers_45 : decode prog_1_method_34_code 45 = .ok (.iload 4, 2) := by decide +kernel
theorem d_C_forgers_47 : decode prog_1_method_34_code 47 = .ok (.invokestatic 262, 3) := by decide +kernel
theorem d_C_forgers_50 : decode prog_1_method_34_code 50 = .ok (.ior, 1) := by decide +kernel
theorem d_C_forgers_51 : decode prog_1_method_34_code 51 = .ok (.istore_n 3, 1) := by decide +kernel
theorem d_C_forgers_58 : decode prog_1_method_34_code 58 = .ok (.iload_n 3, 1) := by decide +kernel
theorem d_C_forgers_59 : decode prog_1_method_34_code 59 = .ok (.ireturn, 1) := by decide +kernel
theorem d_O_goesAgainst_0 : decode prog_8_method_3_code 0 = .ok (.iload_n 2, 1) := by decide +kernel
theorem d_O_goesAgainst_1 : decode prog_8_method_3_code 1 = .ok (.invokestatic 43, 3) := by decide +kernel
theorem d_O_goesAgainst_4 : decode prog_8_method_3_code 4 = .ok (.istore_n 3, 1) := by decide +kernel
theorem d_O_goesAgainst_5 : decode prog_8_method_3_code 5 = .ok (.iconst 0, 1) := by decide +kernel
theorem d_O_goesAgainst_6 : decode prog_8_method_3_code 6 = .ok (.istore 4, 2) := by decide +kernel
theorem d_O_goesAgainst_8 : decode prog_8_method_3_code 8 = .ok (.iload 4, 2) := by decide +kernel
theorem d_O_goesAgainst_10 : decode prog_8_method_3_code 10 = .ok (.bipush 30, 2) := by decide +kernel
theorem d_O_goesAgainst_12 : decode prog_8_method_3_code 12 = .ok (.if_icmp .ge 98, 3) := by decide +kernel
theorem d_O_goesAgainst_15 : decode prog_8_method_3_code 15 = .ok (.iconst 0, 1) := by decide +kernel
theorem d_O_goesAgainst_16 : decode prog_8_method_3_code 16 = .ok (.istore 5, 2) := by decide +kernel
theorem d_O_goesAgainst_18 : decode prog_8_method_3_code 18 = .ok (.iload 5, 2) := by decide +kernel
theorem d_O_goesAgainst_20 : decode prog_8_method_3_code 20 = .ok (.aload_n 0, 1) := by decide +kernel
theorem d_O_goesAgainst_21 : decode prog_8_method_3_code 21 = .ok (.getfield 35, 3) := by decide +kernel
theorem d_O_goesAgainst_24 : decode prog_8_method_3_code 24 = .ok (.getfield 47, 3) := by decide +kernel
theorem d_O_goesAgainst_27 : decode prog_8_method_3_code 27 = .ok (.if_icmp .ge 32, 3) := by decide +kernel
theorem d_O_goesAgainst_30 : decode prog_8_method_3_code 30 = .ok (.aload_n 0, 1) := by decide +kernel
theorem d_O_goesAgainst_31 : decode prog_8_method_3_code 31 = .ok (.getfield 35, 3) := by decide +kernel
theorem d_O_goesAgainst_34 : decode prog_8_method_3_code 34 = .ok (.getfield 52, 3) := by decide +kernel
theorem d_O_goesAgainst_37 : decode prog_8_method_3_code 37 = .ok (.iload 5, 2) := by decide +kernel
theorem d_O_goesAgainst_39 : decode prog_8_method_3_code 39 = .ok (.iaload, 1) := by decide +kernel
theorem d_O_goesAgainst_40 : decode prog_8_method_3_code 40 = .ok (.iload_n 3, 1) := by decide +kernel
theorem d_O_goesAgainst_41 : decode prog_8_method_3_code 41 = .ok (.iand, 1) := by decide +kernel
theorem d_O_goesAgainst_42 : decode prog_8_method_3_code 42 = .ok (.ifCond .eq 11, 3) := by decide +kernel
theorem d_O_goesAgainst_53 : decode prog_8_method_3_code 53 = .ok (.iinc 5 1, 3) := by decide +kernel
theorem d_O_goesAgainst_56 : decode prog_8_method_3_code 56 = .ok (.goto (-38), 3) := by decide +kernel
theorem d_O_goesAgainst_45 : decode prog_8_method_3_code 45 = .ok (.iload_n 3, 1) := by decide +kernel
theorem d_O_goesAgainst_46 : decode prog_8_method_3_code 46 = .ok (.iload 5, 2) := by decide +kernel
theorem d_O_goesAgainst_48 : decode prog_8_method_3_code 48 = .ok (.invokestatic 43, 3) := by decide +kernel
theorem d_O_goesAgainst_51 : decode prog_8_method_3_code 51 = .ok (.ior, 1) := by decide +kernel
theorem d_O_goesAgainst_52 : decode prog_8_method_3_code 52 = .ok (.istore_n 3, 1) := by decide +kernel
theorem d_O_goesAgainst_59 : decode prog_8_method_3_code 59 = .ok (.iconst 0, 1) := by decide +kernel
theorem d_O_goesAgainst_60 : decode prog_8_method_3_code 60 = .ok (.istore 5, 2) := by decide +kernel
theorem d_O_goesAgainst_62 : decode prog_8_method_3_code 62 = .ok (.iload 5, 2) := by decide +kernel
theorem d_O_goesAgainst_64 : decode prog_8_method_3_code 64 = .ok (.aload_n 0, 1) := by decide +kernel
theorem d_O_goesAgainst_65 : decode prog_8_method_3_code 65 = .ok (.getfield 39, 3) := by decide +kernel
theorem d_O_goesAgainst_68 : decode prog_8_method_3_code 68 = .ok (.if_icmp .ge 36, 3) := by decide +kernel
theorem d_O_goesAgainst_71 : decode prog_8_method_3_code 71 = .ok (.iload_n 3, 1) := by decide +kernel
theorem d_O_goesAgainst_72 : decode prog_8_method_3_code 72 = .ok (.aload_n 0, 1) := by decide +kernel
theorem d_O_goesAgainst_73 : decode prog_8_method_3_code 73 = .ok (.getfield 9, 3) := by decide +kernel
theorem d_O_goesAgainst_76 : decode prog_8_method_3_code 76 = .ok (.iload 5, 2) := by decide +kernel
theorem d_O_goesAgainst_78 : decode prog_8_method_3_code 78 = .ok (.iaload, 1) := by decide +kernel
theorem d_O_goesAgainst_79 : decode prog_8_method_3_code 79 = .ok (.invokestatic 55, 3) := by decide +kernel
theorem d_O_goesAgainst_82 : decode prog_8_method_3_code 82 = .ok (.ifCond .eq 16, 3) := by decide +kernel
theorem d_O_goesAgainst_98 : decode prog_8_method_3_code 98 = .ok (.iinc 5 1, 3) := by decide +kernel
theorem d_O_goesAgainst_101 : decode prog_8_method_3_code 101 = .ok (.goto (-39), 3) := by decide +kernel
theorem d_O_goesAgainst_85 : decode prog_8_method_3_code 85 = .ok (.iload_n 3, 1) := by decide +kernel
theorem d_O_goesAgainst_86 : decode prog_8_method_3_code 86 = .ok (.aload_n 0, 1) := by decide +kernel
theorem d_O_goesAgainst_87 : decode prog_8_method_3_code 87 = .ok (.getfield 15, 3) := by decide +kernel
theorem d_O_goesAgainst_90 : decode prog_8_method_3_code 90 = .ok (.iload 5, 2) := by decide +kernel
theorem d_O_goesAgainst_92 : decode prog_8_method_3_code 92 = .ok (.iaload, 1) := by decide +kernel
theorem d_O_goesAgainst_93 : decode prog_8_method_3_code 93 = .ok (.invokestatic 43, 3) := by decide +kernel
theorem d_O_goesAgainst_96 : decode prog_8_method_3_code 96 = .ok (.ior, 1) := by decide +kernel
theorem d_O_goesAgainst_97 : decode prog_8_method_3_code 97 = .ok (.istore_n 3, 1) := by decide +kernel
theorem d_O_goesAgainst_104 : decode prog_8_method_3_code 104 = .ok (.iinc 4 1, 3) := by decide +kernel
theorem d_O_goesAgainst_107 : decode prog_8_method_3_code 107 = .ok (.goto (-99), 3) := by decide +kernel
theorem d_O_goesAgainst_110 : decode prog_8_method_3_code 110 = .ok (.iload_n 3, 1) := by decide +kernel
theorem d_O_goesAgainst_111 : decode prog_8_method_3_code 111 = .ok (.iload_n 1, 1) := by decide +kernel
theorem d_O_goesAgainst_112 : decode prog_8_method_3_code 112 = .ok (.invokestatic 55, 3) := by decide +kernel
theorem d_O_goesAgainst_115 : decode prog_8_method_3_code 115 = .ok (.ireturn, 1) := by decide +kernel
theorem d_O_tell_0 : decode prog_8_method_2_code 0 = .ok (.aload_n 0, 1) := by decide +kernel
theorem d_O_tell_1 : decode prog_8_method_2_code 1 = .ok (.getfield 39, 3) := by decide +kernel
theorem d_O_tell_4 : decode prog_8_method_2_code 4 = .ok (.bipush 12, 2) := by decide +kernel
theorem d_O_tell_6 : decode prog_8_method_2_code 6 = .ok (.if_icmp .ge 33, 3) := by decide +kernel
theorem d_O_tell_39 : decode prog_8_method_2_code 39 = .ok (.return_, 1) := by decide +kernel
theorem d_O_tell_9 : decode prog_8_method_2_code 9 = .ok (.aload_n 0, 1) := by decide +kernel
theorem d_O_tell_10 : decode prog_8_method_2_code 10 = .ok (.getfield 9, 3) := by decide +kernel
theorem d_O_tell_13 : decode prog_8_method_2_code 13 = .ok (.aload_n 0, 1) := by decide +kernel
theorem d_O_tell_14 : decode prog_8_method_2_code 14 = .ok (.getfield 39, 3) := by decide +kernel
theorem d_O_tell_17 : decode prog_8_method_2_code 17 = .ok (.iload_n 1, 1) := by decide +kernel
theorem d_O_tell_18 : decode prog_8_method_2_code 18 = .ok (.iastore, 1) := by decide +kernel
theorem d_O_tell_19 : decode prog_8_method_2_code 19 = .ok (.aload_n 0, 1) := by decide +kernel
theorem d_O_tell_20 : decode prog_8_method_2_code 20 = .ok (.getfield 15, 3) := by decide +kernel
theorem d_O_tell_23 : decode prog_8_method_2_code 23 = .ok (.aload_n 0, 1) := by decide +kernel
theorem d_O_tell_24 : decode prog_8_method_2_code 24 = .ok (.getfield 39, 3) := by decide +kernel
theorem d_O_tell_27 : decode prog_8_method_2_code 27 = .ok (.iload_n 2, 1) := by decide +kernel
theorem d_O_tell_28 : decode prog_8_method_2_code 28 = .ok (.iastore, 1) := by decide +kernel
theorem d_O_tell_29 : decode prog_8_method_2_code 29 = .ok (.aload_n 0, 1) := by decide +kernel
theorem d_O_tell_30 : decode prog_8_method_2_code 30 = .ok (.dup, 1) := by decide +kernel
theorem d_O_tell_31 : decode prog_8_method_2_code 31 = .ok (.getfield 39, 3) := by decide +kernel
theorem d_O_tell_34 : decode prog_8_method_2_code 34 = .ok (.iconst 1, 1) := by decide +kernel
theorem d_O_tell_35 : decode prog_8_method_2_code 35 = .ok (.iadd, 1) := by decide +kernel
theorem d_O_tell_36 : decode prog_8_method_2_code 36 = .ok (.putfield 39, 3) := by decide +kernel
theorem d_C_ahead_0 : decode prog_1_method_35_code 0 = .ok (.aload_n 0, 1) := by decide +kernel
theorem d_C_ahead_1 : decode prog_1_method_35_code 1 = .ok (.getfield 38, 3) := by decide +kernel
theorem d_C_ahead_4 : decode prog_1_method_35_code 4 = .ok (.iload_n 1, 1) := by decide +kernel
theorem d_C_ahead_5 : decode prog_1_method_35_code 5 = .ok (.iload_n 2, 1) := by decide +kernel
theorem d_C_ahead_6 : decode prog_1_method_35_code 6 = .ok (.invokevirtual 208, 3) := by decide +kernel
theorem d_C_ahead_9 : decode prog_1_method_35_code 9 = .ok (.ifCond .eq 27, 3) := by decide +kernel
theorem d_C_ahead_36 : decode prog_1_method_35_code 36 = .ok (.iconst (-1), 1) := by decide +kernel
theorem d_C_ahead_37 : decode prog_1_method_35_code 37 = .ok (.ireturn, 1) := by decide +kernel
theorem d_C_ahead_12 : decode prog_1_method_35_code 12 = .ok (.aload_n 0, 1) := by decide +kernel
theorem d_C_ahead_13 : decode prog_1_method_35_code 13 = .ok (.getfield 77, 3) := by decide +kernel
theorem d_C_ahead_16 : decode prog_1_method_35_code 16 = .ok (.getfield 296, 3) := by decide +kernel
theorem d_C_ahead_19 : decode prog_1_method_35_code 19 = .ok (.bipush 12, 2) := by decide +kernel
theorem d_C_ahead_21 : decode prog_1_method_35_code 21 = .ok (.if_icmp .ge 15, 3) := by decide +kernel
theorem d_C_ahead_24 : decode prog_1_method_35_code 24 = .ok (.aload_n 0, 1) := by decide +kernel
theorem d_C_ahead_25 : decode prog_1_method_35_code 25 = .ok (.getfield 77, 3) := by decide +kernel
theorem d_C_ahead_28 : decode prog_1_method_35_code 28 = .ok (.iload_n 1, 1) := by decide +kernel
theorem d_C_ahead_29 : decode prog_1_method_35_code 29 = .ok (.iload_n 2, 1) := by decide +kernel
theorem d_C_ahead_30 : decode prog_1_method_35_code 30 = .ok (.invokevirtual 299, 3) := by decide +kernel
theorem d_C_ahead_33 : decode prog_1_method_35_code 33 = .ok (.ifCond .eq 5, 3) := by decide +kernel
theorem d_C_ahead_38 : decode prog_1_method_35_code 38 = .ok (.aload_n 0, 1) := by decide +kernel
theorem d_C_ahead_39 : decode prog_1_method_35_code 39 = .ok (.getfield 77, 3) := by decide +kernel
theorem d_C_ahead_42 : decode prog_1_method_35_code 42 = .ok (.iload_n 1, 1) := by decide +kernel
theorem d_C_ahead_43 : decode prog_1_method_35_code 43 = .ok (.iload_n 2, 1) := by decide +kernel
theorem d_C_ahead_44 : decode prog_1_method_35_code 44 = .ok (.invokevirtual 302, 3) := by decide +kernel
theorem d_C_ahead_47 : decode prog_1_method_35_code 47 = .ok (.aload_n 0, 1) := by decide +kernel
theorem d_C_ahead_48 : decode prog_1_method_35_code 48 = .ok (.getfield 77, 3) := by decide +kernel
theorem d_C_ahead_51 : decode prog_1_method_35_code 51 = .ok (.getfield 296, 3) := by decide +kernel
theorem d_C_ahead_54 : decode prog_1_method_35_code 54 = .ok (.ireturn, 1) := by decide +kernel
theorem d_O_mayFollow_0 : decode prog_8_method_7_code 0 = .ok (.iload_n 2, 1) := by decide +kernel
theorem d_O_mayFollow_1 : decode prog_8_method_7_code 1 = .ok (.iload_n 1, 1) := by decide +kernel
theorem d_O_mayFollow_2 : decode prog_8_method_7_code 2 = .ok (.invokestatic 55, 3) := by decide +kernel
theorem d_O_mayFollow_5 : decode prog_8_method_7_code 5 = .ok (.ifCond .ne 20, 3) := by decide +kernel
theorem d_O_mayFollow_25 : decode prog_8_method_7_code 25 = .ok (.iconst 0, 1) := by decide +kernel
theorem d_O_mayFollow_26 : decode prog_8_method_7_code 26 = .ok (.ireturn, 1) := by decide +kernel
theorem d_O_mayFollow_8 : decode prog_8_method_7_code 8 = .ok (.aload_n 0, 1) := by decide +kernel
theorem d_O_mayFollow_9 : decode prog_8_method_7_code 9 = .ok (.getfield 21, 3) := by decide +kernel
theorem d_O_mayFollow_12 : decode prog_8_method_7_code 12 = .ok (.iload_n 1, 1) := by decide +kernel
theorem d_O_mayFollow_13 : decode prog_8_method_7_code 13 = .ok (.iaload, 1) := by decide +kernel
theorem d_O_mayFollow_14 : decode prog_8_method_7_code 14 = .ok (.iload_n 2, 1) := by decide +kernel
theorem d_O_mayFollow_15 : decode prog_8_method_7_code 15 = .ok (.iconst (-1), 1) := by decide +kernel
theorem d_O_mayFollow_16 : decode prog_8_method_7_code 16 = .ok (.ixor, 1) := by decide +kernel
theorem d_O_mayFollow_17 : decode prog_8_method_7_code 17 = .ok (.iand, 1) := by decide +kernel
theorem d_O_mayFollow_18 : decode prog_8_method_7_code 18 = .ok (.ifCond .ne 7, 3) := by decide +kernel
theorem d_O_mayFollow_21 : decode prog_8_method_7_code 21 = .ok (.iconst 1, 1) := by decide +kernel
theorem d_O_mayFollow_22 : decode prog_8_method_7_code 22 = .ok (.goto 4, 3) := by decide +kernel
theorem d_O_howMany_0 : decode prog_8_method_8_code 0 = .ok (.aload_n 0, 1) := by decide +kernel
theorem d_O_howMany_1 : decode prog_8_method_8_code 1 = .ok (.getfield 68, 3) := by decide +kernel
theorem d_O_howMany_4 : decode prog_8_method_8_code 4 = .ok (.invokestatic 43, 3) := by decide +kernel
theorem d_O_howMany_7 : decode prog_8_method_8_code 7 = .ok (.iconst 1, 1) := by decide +kernel
theorem d_O_howMany_8 : decode prog_8_method_8_code 8 = .ok (.isub, 1) := by decide +kernel
theorem d_O_howMany_9 : decode prog_8_method_8_code 9 = .ok (.istore_n 1, 1) := by decide +kernel
theorem d_O_howMany_10 : decode prog_8_method_8_code 10 = .ok (.aload_n 0, 1) := by decide +kernel
theorem d_O_howMany_11 : decode prog_8_method_8_code 11 = .ok (.getfield 24, 3) := by decide +kernel
theorem d_O_howMany_14 : decode prog_8_method_8_code 14 = .ok (.iload_n 1, 1) := by decide +kernel
theorem d_O_howMany_15 : decode prog_8_method_8_code 15 = .ok (.iconst 1, 1) := by decide +kernel
theorem d_O_howMany_16 : decode prog_8_method_8_code 16 = .ok (.iastore, 1) := by decide +kernel
theorem d_O_howMany_17 : decode prog_8_method_8_code 17 = .ok (.iload_n 1, 1) := by decide +kernel
theorem d_O_howMany_18 : decode prog_8_method_8_code 18 = .ok (.iconst 1, 1) := by decide +kernel
theorem d_O_howMany_19 : decode prog_8_method_8_code 19 = .ok (.isub, 1) := by decide +kernel
theorem d_O_howMany_20 : decode prog_8_method_8_code 20 = .ok (.istore_n 2, 1) := by decide +kernel
theorem d_O_howMany_21 : decode prog_8_method_8_code 21 = .ok (.iload_n 2, 1) := by decide +kernel
theorem d_O_howMany_22 : decode prog_8_method_8_code 22 = .ok (.ifCond .lt 61, 3) := by decide +kernel
theorem d_O_howMany_25 : decode prog_8_method_8_code 25 = .ok (.iconst 0, 1) := by decide +kernel
theorem d_O_howMany_26 : decode prog_8_method_8_code 26 = .ok (.istore_n 3, 1) := by decide +kernel
theorem d_O_howMany_27 : decode prog_8_method_8_code 27 = .ok (.iconst 0, 1) := by decide +kernel
theorem d_O_howMany_28 : decode prog_8_method_8_code 28 = .ok (.istore 4, 2) := by decide +kernel
theorem d_O_howMany_30 : decode prog_8_method_8_code 30 = .ok (.iload 4, 2) := by decide +kernel
theorem d_O_howMany_32 : decode prog_8_method_8_code 32 = .ok (.aload_n 0, 1) := by decide +kernel
theorem d_O_howMany_33 : decode prog_8_method_8_code 33 = .ok (.getfield 68, 3) := by decide +kernel
theorem d_O_howMany_36 : decode prog_8_method_8_code 36 = .ok (.if_icmp .ge 34, 3) := by decide +kernel
theorem d_O_howMany_39 : decode prog_8_method_8_code 39 = .ok (.aload_n 0, 1) := by decide +kernel
theorem d_O_howMany_40 : decode prog_8_method_8_code 40 = .ok (.iload 4, 2) := by decide +kernel
theorem d_O_howMany_42 : decode prog_8_method_8_code 42 = .ok (.iload_n 2, 1) := by decide +kernel
theorem d_O_howMany_43 : decode prog_8_method_8_code 43 = .ok (.invokevirtual 76, 3) := by decide +kernel
theorem d_O_howMany_46 : decode prog_8_method_8_code 46 = .ok (.ifCond .eq 18, 3) := by decide +kernel
theorem d_O_howMany_64 : decode prog_8_method_8_code 64 = .ok (.iinc 4 1, 3) := by decide +kernel
theorem d_O_howMany_67 : decode prog_8_method_8_code 67 = .ok (.goto (-37), 3) := by decide +kernel
theorem d_O_howMany_49 : decode prog_8_method_8_code 49 = .ok (.iload_n 3, 1) := by decide +kernel
theorem d_O_howMany_50 : decode prog_8_method_8_code 50 = .ok (.aload_n 0, 1) := by decide +kernel
theorem d_O_howMany_51 : decode prog_8_method_8_code 51 = .ok (.getfield 24, 3) := by decide +kernel
theorem d_O_howMany_54 : decode prog_8_method_8_code 54 = .ok (.iload_n 2, 1) := by decide +kernel
theorem d_O_howMany_55 : decode prog_8_method_8_code 55 = .ok (.iload 4, 2) := by decide +kernel
theorem d_O_howMany_57 : decode prog_8_method_8_code 57 = .ok (.invokestatic 43, 3) := by decide +kernel
theorem d_O_howMany_60 : decode prog_8_method_8_code 60 = .ok (.ior, 1) := by decide +kernel
theorem d_O_howMany_61 : decode prog_8_method_8_code 61 = .ok (.iaload, 1) := by decide +kernel
theorem d_O_howMany_62 : decode prog_8_method_8_code 62 = .ok (.iadd, 1) := by decide +kernel
theorem d_O_howMany_63 : decode prog_8_method_8_code 63 = .ok (.istore_n 3, 1) := by decide +kernel
theorem d_O_howMany_70 : decode prog_8_method_8_code 70 = .ok (.aload_n 0, 1) := by decide +kernel
theorem d_O_howMany_71 : decode prog_8_method_8_code 71 = .ok (.getfield 24, 3) := by decide +kernel
theorem d_O_howMany_74 : decode prog_8_method_8_code 74 = .ok (.iload_n 2, 1) := by decide +kernel
theorem d_O_howMany_75 : decode prog_8_method_8_code 75 = .ok (.iload_n 3, 1) := by decide +kernel
theorem d_O_howMany_76 : decode prog_8_method_8_code 76 = .ok (.iastore, 1) := by decide +kernel
theorem d_O_howMany_77 : decode prog_8_method_8_code 77 = .ok (.iinc 2 (-1), 3) := by decide +kernel
theorem d_O_howMany_80 : decode prog_8_method_8_code 80 = .ok (.goto (-59), 3) := by decide +kernel
theorem d_O_howMany_83 : decode prog_8_method_8_code 83 = .ok (.aload_n 0, 1) := by decide +kernel
theorem d_O_howMany_84 : decode prog_8_method_8_code 84 = .ok (.getfield 24, 3) := by decide +kernel
theorem d_O_howMany_87 : decode prog_8_method_8_code 87 = .ok (.iconst 0, 1) := by decide +kernel
theorem d_O_howMany_88 : decode prog_8_method_8_code 88 = .ok (.iaload, 1) := by decide +kernel
theorem d_O_howMany_89 : decode prog_8_method_8_code 89 = .ok (.ireturn, 1) := by decide +kernel
theorem d_O_placesOf_0 : decode prog_8_method_5_code 0 = .ok (.iconst 0, 1) := by decide +kernel
theorem d_O_placesOf_1 : decode prog_8_method_5_code 1 = .ok (.istore_n 2, 1) := by decide +kernel
theorem d_O_placesOf_2 : decode prog_8_method_5_code 2 = .ok (.iconst 0, 1) := by decide +kernel
theorem d_O_placesOf_3 : decode prog_8_method_5_code 3 = .ok (.istore_n 3, 1) := by decide +kernel
theorem d_O_placesOf_4 : decode prog_8_method_5_code 4 = .ok (.iload_n 3, 1) := by decide +kernel
theorem d_O_placesOf_5 : decode prog_8_method_5_code 5 = .ok (.aload_n 0, 1) := by decide +kernel
theorem d_O_placesOf_6 : decode prog_8_method_5_code 6 = .ok (.getfield 68, 3) := by decide +kernel
theorem d_O_placesOf_9 : decode prog_8_method_5_code 9 = .ok (.if_icmp .ge 29, 3) := by decide +kernel
theorem d_O_placesOf_12 : decode prog_8_method_5_code 12 = .ok (.iload_n 1, 1) := by decide +kernel
theorem d_O_placesOf_13 : decode prog_8_method_5_code 13 = .ok (.aload_n 0, 1) := by decide +kernel
theorem d_O_placesOf_14 : decode prog_8_method_5_code 14 = .ok (.getfield 18, 3) := by decide +kernel
theorem d_O_placesOf_17 : decode prog_8_method_5_code 17 = .ok (.iload_n 3, 1) := by decide +kernel
theorem d_O_placesOf_18 : decode prog_8_method_5_code 18 = .ok (.iaload, 1) := by decide +kernel
theorem d_O_placesOf_19 : decode prog_8_method_5_code 19 = .ok (.invokestatic 55, 3) := by decide +kernel
theorem d_O_placesOf_22 : decode prog_8_method_5_code 22 = .ok (.ifCond .eq 10, 3) := by decide +kernel
theorem d_O_placesOf_32 : decode prog_8_method_5_code 32 = .ok (.iinc 3 1, 3) := by decide +kernel
theorem d_O_placesOf_35 : decode prog_8_method_5_code 35 = .ok (.goto (-31), 3) := by decide +kernel
theorem d_O_placesOf_25 : decode prog_8_method_5_code 25 = .ok (.iload_n 2, 1) := by decide +kernel
theorem d_O_placesOf_26 : decode prog_8_method_5_code 26 = .ok (.iload_n 3, 1) := by decide +kernel
theorem d_O_placesOf_27 : decode prog_8_method_5_code 27 = .ok (.invokestatic 43, 3) := by decide +kernel
theorem d_O_placesOf_30 : decode prog_8_method_5_code 30 = .ok (.ior, 1) := by decide +kernel
theorem d_O_placesOf_31 : decode prog_8_method_5_code 31 = .ok (.istore_n 2, 1) := by decide +kernel
theorem d_O_placesOf_38 : decode prog_8_method_5_code 38 = .ok (.iload_n 2, 1) := by decide +kernel
theorem d_O_placesOf_39 : decode prog_8_method_5_code 39 = .ok (.ireturn, 1) := by decide +kernel
theorem d_O_demand_0 : decode prog_8_method_6_code 0 = .ok (.iconst 0, 1) := by decide +kernel
theorem d_O_demand_1 : decode prog_8_method_6_code 1 = .ok (.istore_n 3, 1) := by decide +kernel
theorem d_O_demand_2 : decode prog_8_method_6_code 2 = .ok (.iload_n 3, 1) := by decide +kernel
theorem d_O_demand_3 : decode prog_8_method_6_code 3 = .ok (.aload_n 0, 1) := by decide +kernel
theorem d_O_demand_4 : decode prog_8_method_6_code 4 = .ok (.getfield 68, 3) := by decide +kernel
theorem d_O_demand_7 : decode prog_8_method_6_code 7 = .ok (.if_icmp .ge 36, 3) := by decide +kernel
theorem d_O_demand_10 : decode prog_8_method_6_code 10 = .ok (.aload_n 0, 1) := by decide +kernel
theorem d_O_demand_11 : decode prog_8_method_6_code 11 = .ok (.getfield 18, 3) := by decide +kernel
theorem d_O_demand_14 : decode prog_8_method_6_code 14 = .ok (.iload_n 3, 1) := by decide +kernel
theorem d_O_demand_15 : decode prog_8_method_6_code 15 = .ok (.iaload, 1) := by decide +kernel
theorem d_O_demand_16 : decode prog_8_method_6_code 16 = .ok (.iload_n 2, 1) := by decide +kernel
theorem d_O_demand_17 : decode prog_8_method_6_code 17 = .ok (.if_icmp .ne 20, 3) := by decide +kernel
theorem d_O_demand_37 : decode prog_8_method_6_code 37 = .ok (.iinc 3 1, 3) := by decide +kernel
theorem d_O_demand_40 : decode prog_8_method_6_code 40 = .ok (.goto (-38), 3) := by decide +kernel
theorem d_O_demand_20 : decode prog_8_method_6_code 20 = .ok (.aload_n 0, 1) := by decide +kernel
theorem d_O_demand_21 : decode prog_8_method_6_code 21 = .ok (.getfield 21, 3) := by decide +kernel
theorem d_O_demand_24 : decode prog_8_method_6_code 24 = .ok (.iload_n 3, 1) := by decide +kernel
theorem d_O_demand_25 : decode prog_8_method_6_code 25 = .ok (.dup2, 1) := by decide +kernel
theorem d_O_demand_26 : decode prog_8_method_6_code 26 = .ok (.iaload, 1) := by decide +kernel
theorem d_O_demand_27 : decode prog_8_method_6_code 27 = .ok (.aload_n 0, 1) := by decide +kernel
theorem d_O_demand_28 : decode prog_8_method_6_code 28 = .ok (.iload_n 1, 1) := by decide +kernel
theorem d_O_demand_29 : decode prog_8_method_6_code 29 = .ok (.invokestatic 43, 3) := by decide +kernel
theorem d_O_demand_32 : decode prog_8_method_6_code 32 = .ok (.invokevirtual 69, 3) := by decide +kernel
theorem d_O_demand_35 : decode prog_8_method_6_code 35 = .ok (.ior, 1) := by decide +kernel
theorem d_O_demand_36 : decode prog_8_method_6_code 36 = .ok (.iastore, 1) := by decide +kernel
theorem d_O_demand_43 : decode prog_8_method_6_code 43 = .ok (.return_, 1) := by decide +kernel
theorem d_O_takesSet_0 : decode prog_8_method_4_code 0 = .ok (.aload_n 0, 1) := by decide +kernel
theorem d_O_takesSet_1 : decode prog_8_method_4_code 1 = .ok (.getfield 35, 3) := by decide +kernel
theorem d_O_takesSet_4 : decode prog_8_method_4_code 4 = .ok (.iload_n 1, 1) := by decide +kernel
theorem d_O_takesSet_5 : decode prog_8_method_4_code 5 = .ok (.invokevirtual 59, 3) := by decide +kernel
theorem d_O_takesSet_8 : decode prog_8_method_4_code 8 = .ok (.ifCond .eq 12, 3) := by decide +kernel
theorem d_O_takesSet_20 : decode prog_8_method_4_code 20 = .ok (.iconst 0, 1) := by decide +kernel
theorem d_O_takesSet_21 : decode prog_8_method_4_code 21 = .ok (.ireturn, 1) := by decide +kernel
theorem d_O_takesSet_11 : decode prog_8_method_4_code 11 = .ok (.iload_n 1, 1) := by decide +kernel
theorem d_O_takesSet_12 : decode prog_8_method_4_code 12 = .ok (.invokestatic 63, 3) := by decide +kernel
theorem d_O_takesSet_15 : decode prog_8_method_4_code 15 = .ok (.bipush 12, 2) := by decide +kernel
theorem d_O_takesSet_17 : decode prog_8_method_4_code 17 = .ok (.if_icmp .le 5, 3) := by decide +kernel
theorem d_O_takesSet_22 : decode prog_8_method_4_code 22 = .ok (.aload_n 0, 1) := by decide +kernel
theorem d_O_takesSet_23 : decode prog_8_method_4_code 23 = .ok (.iconst 0, 1) := by decide +kernel
theorem d_O_takesSet_24 : decode prog_8_method_4_code 24 = .ok (.putfield 68, 3) := by decide +kernel
theorem d_O_takesSet_27 : decode prog_8_method_4_code 27 = .ok (.iconst 0, 1) := by decide +kernel
theorem d_O_takesSet_28 : decode prog_8_method_4_code 28 = .ok (.istore_n 2, 1) := by decide +kernel
theorem d_O_takesSet_29 : decode prog_8_method_4_code 29 = .ok (.iload_n 2, 1) := by decide +kernel
theorem d_O_takesSet_30 : decode prog_8_method_4_code 30 = .ok (.aload_n 0, 1) := by decide +kernel
theorem d_O_takesSet_31 : decode prog_8_method_4_code 31 = .ok (.getfield 35, 3) := by decide +kernel
theorem d_O_takesSet_34 : decode prog_8_method_4_code 34 = .ok (.getfield 47, 3) := by decide +kernel
theorem d_O_takesSet_37 : decode prog_8_method_4_code 37 = .ok (.if_icmp .ge 46, 3) := by decide +kernel
theorem d_O_takesSet_40 : decode prog_8_method_4_code 40 = .ok (.iload_n 1, 1) := by decide +kernel
theorem d_O_takesSet_41 : decode prog_8_method_4_code 41 = .ok (.iload_n 2, 1) := by decide +kernel
theorem d_O_takesSet_42 : decode prog_8_method_4_code 42 = .ok (.invokestatic 55, 3) := by decide +kernel
theorem d_O_takesSet_45 : decode prog_8_method_4_code 45 = .ok (.ifCond .eq 32, 3) := by decide +kernel
theorem d_O_takesSet_77 : decode prog_8_method_4_code 77 = .ok (.iinc 2 1, 3) := by decide +kernel
theorem d_O_takesSet_80 : decode prog_8_method_4_code 80 = .ok (.goto (-51), 3) := by decide +kernel
theorem d_O_takesSet_48 : decode prog_8_method_4_code 48 = .ok (.aload_n 0, 1) := by decide +kernel
theorem d_O_takesSet_49 : decode prog_8_method_4_code 49 = .ok (.getfield 68, 3) := by decide +kernel
theorem d_O_takesSet_52 : decode prog_8_method_4_code 52 = .ok (.bipush 12, 2) := by decide +kernel
theorem d_O_takesSet_54 : decode prog_8_method_4_code 54 = .ok (.if_icmp .ge 23, 3) := by decide +kernel
theorem d_O_takesSet_57 : decode prog_8_method_4_code 57 = .ok (.aload_n 0, 1) := by decide +kernel
theorem d_O_takesSet_58 : decode prog_8_method_4_code 58 = .ok (.getfield 18, 3) := by decide +kernel
theorem d_O_takesSet_61 : decode prog_8_method_4_code 61 = .ok (.aload_n 0, 1) := by decide +kernel
theorem d_O_takesSet_62 : decode prog_8_method_4_code 62 = .ok (.getfield 68, 3) := by decide +kernel
theorem d_O_takesSet_65 : decode prog_8_method_4_code 65 = .ok (.iload_n 2, 1) := by decide +kernel
theorem d_O_takesSet_66 : decode prog_8_method_4_code 66 = .ok (.iastore, 1) := by decide +kernel
theorem d_O_takesSet_67 : decode prog_8_method_4_code 67 = .ok (.aload_n 0, 1) := by decide +kernel
theorem d_O_takesSet_68 : decode prog_8_method_4_code 68 = .ok (.dup, 1) := by decide +kernel
theorem d_O_takesSet_69 : decode prog_8_method_4_code 69 = .ok (.getfield 68, 3) := by decide +kernel
theorem d_O_takesSet_72 : decode prog_8_method_4_code 72 = .ok (.iconst 1, 1) := by decide +kernel
theorem d_O_takesSet_73 : decode prog_8_method_4_code 73 = .ok (.iadd, 1) := by decide +kernel
theorem d_O_takesSet_74 : decode prog_8_method_4_code 74 = .ok (.putfield 68, 3) := by decide +kernel
theorem d_O_takesSet_83 : decode prog_8_method_4_code 83 = .ok (.iconst 0, 1) := by decide +kernel
theorem d_O_takesSet_84 : decode prog_8_method_4_code 84 = .ok (.istore_n 2, 1) := by decide +kernel
theorem d_O_takesSet_85 : decode prog_8_method_4_code 85 = .ok (.iload_n 2, 1) := by decide +kernel
theorem d_O_takesSet_86 : decode prog_8_method_4_code 86 = .ok (.aload_n 0, 1) := by decide +kernel
theorem d_O_takesSet_87 : decode prog_8_method_4_code 87 = .ok (.getfield 68, 3) := by decide +kernel
theorem d_O_takesSet_90 : decode prog_8_method_4_code 90 = .ok (.if_icmp .ge 33, 3) := by decide +kernel
theorem d_O_takesSet_93 : decode prog_8_method_4_code 93 = .ok (.aload_n 0, 1) := by decide +kernel
theorem d_O_takesSet_94 : decode prog_8_method_4_code 94 = .ok (.getfield 21, 3) := by decide +kernel
theorem d_O_takesSet_97 : decode prog_8_method_4_code 97 = .ok (.iload_n 2, 1) := by decide +kernel
theorem d_O_takesSet_98 : decode prog_8_method_4_code 98 = .ok (.aload_n 0, 1) := by decide +kernel
theorem d_O_takesSet_99 : decode prog_8_method_4_code 99 = .ok (.aload_n 0, 1) := by decide +kernel
theorem d_O_takesSet_100 : decode prog_8_method_4_code 100 = .ok (.getfield 35, 3) := by decide +kernel
theorem d_O_takesSet_103 : decode prog_8_method_4_code 103 = .ok (.getfield 52, 3) := by decide +kernel
theorem d_O_takesSet_106 : decode prog_8_method_4_code 106 = .ok (.aload_n 0, 1) := by decide +kernel
theorem d_O_takesSet_107 : decode prog_8_method_4_code 107 = .ok (.getfield 18, 3) := by decide +kernel
theorem d_O_takesSet_110 : decode prog_8_method_4_code 110 = .ok (.iload_n 2, 1) := by decide +kernel
theorem d_O_takesSet_111 : decode prog_8_method_4_code 111 = .ok (.iaload, 1) := by decide +kernel
theorem d_O_takesSet_112 : decode prog_8_method_4_code 112 = .ok (.iaload, 1) := by decide +kernel
theorem d_O_takesSet_113 : decode prog_8_method_4_code 113 = .ok (.invokevirtual 69, 3) := by decide +kernel
theorem d_O_takesSet_116 : decode prog_8_method_4_code 116 = .ok (.iastore, 1) := by decide +kernel
theorem d_O_takesSet_117 : decode prog_8_method_4_code 117 = .ok (.iinc 2 1, 3) := by decide +kernel
theorem d_O_takesSet_120 : decode prog_8_method_4_code 120 = .ok (.goto (-35), 3) := by decide +kernel
theorem d_O_takesSet_123 : decode prog_8_method_4_code 123 = .ok (.iconst 0, 1) := by decide +kernel
theorem d_O_takesSet_124 : decode prog_8_method_4_code 124 = .ok (.istore_n 2, 1) := by decide +kernel
theorem d_O_takesSet_125 : decode prog_8_method_4_code 125 = .ok (.iload_n 2, 1) := by decide +kernel
theorem d_O_takesSet_126 : decode prog_8_method_4_code 126 = .ok (.aload_n 0, 1) := by decide +kernel
theorem d_O_takesSet_127 : decode prog_8_method_4_code 127 = .ok (.getfield 39, 3) := by decide +kernel
theorem d_O_takesSet_130 : decode prog_8_method_4_code 130 = .ok (.if_icmp .ge 51, 3) := by decide +kernel
theorem d_O_takesSet_133 : decode prog_8_method_4_code 133 = .ok (.iload_n 1, 1) := by decide +kernel
theorem d_O_takesSet_134 : decode prog_8_method_4_code 134 = .ok (.aload_n 0, 1) := by decide +kernel
theorem d_O_takesSet_135 : decode prog_8_method_4_code 135 = .ok (.getfield 9, 3) := by decide +kernel
theorem d_O_takesSet_138 : decode prog_8_method_4_code 138 = .ok (.iload_n 2, 1) := by decide +kernel
theorem d_O_takesSet_139 : decode prog_8_method_4_code 139 = .ok (.iaload, 1) := by decide +kernel
theorem d_O_takesSet_140 : decode prog_8_method_4_code 140 = .ok (.invokestatic 55, 3) := by decide +kernel
theorem d_O_takesSet_143 : decode prog_8_method_4_code 143 = .ok (.ifCond .eq 32, 3) := by decide +kernel
theorem d_O_takesSet_175 : decode prog_8_method_4_code 175 = .ok (.iinc 2 1, 3) := by decide +kernel
theorem d_O_takesSet_178 : decode prog_8_method_4_code 178 = .ok (.goto (-53), 3) := by decide +kernel
theorem d_O_takesSet_146 : decode prog_8_method_4_code 146 = .ok (.iload_n 1, 1) := by decide +kernel
theorem d_O_takesSet_147 : decode prog_8_method_4_code 147 = .ok (.aload_n 0, 1) := by decide +kernel
theorem d_O_takesSet_148 : decode prog_8_method_4_code 148 = .ok (.getfield 15, 3) := by decide +kernel
theorem d_O_takesSet_151 : decode prog_8_method_4_code 151 = .ok (.iload_n 2, 1) := by decide +kernel
theorem d_O_takesSet_152 : decode prog_8_method_4_code 152 = .ok (.iaload, 1) := by decide +kernel
theorem d_O_takesSet_153 : decode prog_8_method_4_code 153 = .ok (.invokestatic 55, 3) := by decide +kernel
theorem d_O_takesSet_156 : decode prog_8_method_4_code 156 = .ok (.ifCond .eq 19, 3) := by decide +kernel
theorem d_O_takesSet_159 : decode prog_8_method_4_code 159 = .ok (.aload_n 0, 1) := by decide +kernel
theorem d_O_takesSet_160 : decode prog_8_method_4_code 160 = .ok (.aload_n 0, 1) := by decide +kernel
theorem d_O_takesSet_161 : decode prog_8_method_4_code 161 = .ok (.getfield 9, 3) := by decide +kernel
theorem d_O_takesSet_164 : decode prog_8_method_4_code 164 = .ok (.iload_n 2, 1) := by decide +kernel
theorem d_O_takesSet_165 : decode prog_8_method_4_code 165 = .ok (.iaload, 1) := by decide +kernel
theorem d_O_takesSet_166 : decode prog_8_method_4_code 166 = .ok (.aload_n 0, 1) := by decide +kernel
theorem d_O_takesSet_167 : decode prog_8_method_4_code 167 = .ok (.getfield 15, 3) := by decide +kernel
theorem d_O_takesSet_170 : decode prog_8_method_4_code 170 = .ok (.iload_n 2, 1) := by decide +kernel
theorem d_O_takesSet_171 : decode prog_8_method_4_code 171 = .ok (.iaload, 1) := by decide +kernel
theorem d_O_takesSet_172 : decode prog_8_method_4_code 172 = .ok (.invokevirtual 72, 3) := by decide +kernel
theorem d_O_takesSet_181 : decode prog_8_method_4_code 181 = .ok (.iconst 1, 1) := by decide +kernel
theorem d_O_takesSet_182 : decode prog_8_method_4_code 182 = .ok (.ireturn, 1) := by decide +kernel
theorem d_C_orders_0 : decode prog_1_method_36_code 0 = .ok (.aload_n 0, 1) := by decide +kernel
theorem d_C_orders_1 : decode prog_1_method_36_code 1 = .ok (.getfield 77, 3) := by decide +kernel
theorem d_C_orders_4 : decode prog_1_method_36_code 4 = .ok (.iload_n 1, 1) := by decide +kernel
theorem d_C_orders_5 : decode prog_1_method_36_code 5 = .ok (.invokevirtual 305, 3) := by decide +kernel
theorem d_C_orders_8 : decode prog_1_method_36_code 8 = .ok (.ifCond .eq 13, 3) := by decide +kernel
theorem d_C_orders_21 : decode prog_1_method_36_code 21 = .ok (.iconst (-1), 1) := by decide +kernel
theorem d_C_orders_22 : decode prog_1_method_36_code 22 = .ok (.ireturn, 1) := by decide +kernel
theorem d_C_orders_11 : decode prog_1_method_36_code 11 = .ok (.aload_n 0, 1) := by decide +kernel
theorem d_C_orders_12 : decode prog_1_method_36_code 12 = .ok (.getfield 77, 3) := by decide +kernel
theorem d_C_orders_15 : decode prog_1_method_36_code 15 = .ok (.invokevirtual 308, 3) := by decide +kernel
theorem d_C_orders_18 : decode prog_1_method_36_code 18 = .ok (.goto 4, 3) := by decide +kernel
theorem d_O_waysAhead_0 : decode prog_8_method_11_code 0 = .ok (.iconst 0, 1) := by decide +kernel
theorem d_O_waysAhead_1 : decode prog_8_method_11_code 1 = .ok (.istore_n 3, 1) := by decide +kernel
theorem d_O_waysAhead_2 : decode prog_8_method_11_code 2 = .ok (.iconst 0, 1) := by decide +kernel
theorem d_O_waysAhead_3 : decode prog_8_method_11_code 3 = .ok (.istore 4, 2) := by decide +kernel
theorem d_O_waysAhead_5 : decode prog_8_method_11_code 5 = .ok (.iload 4, 2) := by decide +kernel
theorem d_O_waysAhead_7 : decode prog_8_method_11_code 7 = .ok (.iload_n 2, 1) := by decide +kernel
theorem d_O_waysAhead_8 : decode prog_8_method_11_code 8 = .ok (.if_icmp .ge 34, 3) := by decide +kernel
theorem d_O_waysAhead_11 : decode prog_8_method_11_code 11 = .ok (.aload_n 0, 1) := by decide +kernel
theorem d_O_waysAhead_12 : decode prog_8_method_11_code 12 = .ok (.iload 4, 2) := by decide +kernel
theorem d_O_waysAhead_14 : decode prog_8_method_11_code 14 = .ok (.iload_n 1, 1) := by decide +kernel
theorem d_O_waysAhead_15 : decode prog_8_method_11_code 15 = .ok (.invokevirtual 76, 3) := by decide +kernel
theorem d_O_waysAhead_18 : decode prog_8_method_11_code 18 = .ok (.ifCond .eq 18, 3) := by decide +kernel
theorem d_O_waysAhead_36 : decode prog_8_method_11_code 36 = .ok (.iinc 4 1, 3) := by decide +kernel
theorem d_O_waysAhead_39 : decode prog_8_method_11_code 39 = .ok (.goto (-34), 3) := by decide +kernel
theorem d_O_waysAhead_21 : decode prog_8_method_11_code 21 = .ok (.iload_n 3, 1) := by decide +kernel
theorem d_O_waysAhead_22 : decode prog_8_method_11_code 22 = .ok (.aload_n 0, 1) := by decide +kernel
theorem d_O_waysAhead_23 : decode prog_8_method_11_code 23 = .ok (.getfield 24, 3) := by decide +kernel
theorem d_O_waysAhead_26 : decode prog_8_method_11_code 26 = .ok (.iload_n 1, 1) := by decide +kernel
theorem d_O_waysAhead_27 : decode prog_8_method_11_code 27 = .ok (.iload 4, 2) := by decide +kernel
theorem d_O_waysAhead_29 : decode prog_8_method_11_code 29 = .ok (.invokestatic 43, 3) := by decide +kernel
theorem d_O_waysAhead_32 : decode prog_8_method_11_code 32 = .ok (.ior, 1) := by decide +kernel
theorem d_O_waysAhead_33 : decode prog_8_method_11_code 33 = .ok (.iaload, 1) := by decide +kernel
theorem d_O_waysAhead_34 : decode prog_8_method_11_code 34 = .ok (.iadd, 1) := by decide +kernel
theorem d_O_waysAhead_35 : decode prog_8_method_11_code 35 = .ok (.istore_n 3, 1) := by decide +kernel
theorem d_O_waysAhead_42 : decode prog_8_method_11_code 42 = .ok (.iload_n 3, 1) := by decide +kernel
theorem d_O_waysAhead_43 : decode prog_8_method_11_code 43 = .ok (.ireturn, 1) := by decide +kernel
theorem d_O_memberAt_0 : decode prog_8_method_10_code 0 = .ok (.iconst 0, 1) := by decide +kernel
theorem d_O_memberAt_1 : decode prog_8_method_10_code 1 = .ok (.istore_n 3, 1) := by decide +kernel
theorem d_O_memberAt_2 : decode prog_8_method_10_code 2 = .ok (.iload_n 3, 1) := by decide +kernel
theorem d_O_memberAt_3 : decode prog_8_method_10_code 3 = .ok (.aload_n 0, 1) := by decide +kernel
theorem d_O_memberAt_4 : decode prog_8_method_10_code 4 = .ok (.getfield 68, 3) := by decide +kernel
theorem d_O_memberAt_7 : decode prog_8_method_10_code 7 = .ok (.if_icmp .ge 42, 3) := by decide +kernel
theorem d_O_memberAt_10 : decode prog_8_method_10_code 10 = .ok (.aload_n 0, 1) := by decide +kernel
theorem d_O_memberAt_11 : decode prog_8_method_10_code 11 = .ok (.iload_n 3, 1) := by decide +kernel
theorem d_O_memberAt_12 : decode prog_8_method_10_code 12 = .ok (.iload_n 1, 1) := by decide +kernel
theorem d_O_memberAt_13 : decode prog_8_method_10_code 13 = .ok (.invokevirtual 76, 3) := by decide +kernel
theorem d_O_memberAt_16 : decode prog_8_method_10_code 16 = .ok (.ifCond .eq 27, 3) := by decide +kernel
theorem d_O_memberAt_43 : decode prog_8_method_10_code 43 = .ok (.iinc 3 1, 3) := by decide +kernel
theorem d_O_memberAt_46 : decode prog_8_method_10_code 46 = .ok (.goto (-44), 3) := by decide +kernel
theorem d_O_memberAt_19 : decode prog_8_method_10_code 19 = .ok (.iload_n 2, 1) := by decide +kernel
theorem d_O_memberAt_20 : decode prog_8_method_10_code 20 = .ok (.aload_n 0, 1) := by decide +kernel
theorem d_O_memberAt_21 : decode prog_8_method_10_code 21 = .ok (.iload_n 1, 1) := by decide +kernel
theorem d_O_memberAt_22 : decode prog_8_method_10_code 22 = .ok (.iload_n 3, 1) := by decide +kernel
theorem d_O_memberAt_23 : decode prog_8_method_10_code 23 = .ok (.invokevirtual 87, 3) := by decide +kernel
theorem d_O_memberAt_26 : decode prog_8_method_10_code 26 = .ok (.aload_n 0, 1) := by decide +kernel
theorem d_O_memberAt_27 : decode prog_8_method_10_code 27 = .ok (.getfield 24, 3) := by decide +kernel
theorem d_O_memberAt_30 : decode prog_8_method_10_code 30 = .ok (.iload_n 1, 1) := by decide +kernel
theorem d_O_memberAt_31 : decode prog_8_method_10_code 31 = .ok (.iload_n 3, 1) := by decide +kernel
theorem d_O_memberAt_32 : decode prog_8_method_10_code 32 = .ok (.invokestatic 43, 3) := by decide +kernel
theorem d_O_memberAt_35 : decode prog_8_method_10_code 35 = .ok (.ior, 1) := by decide +kernel
theorem d_O_memberAt_36 : decode prog_8_method_10_code 36 = .ok (.iaload, 1) := by decide +kernel
theorem d_O_memberAt_37 : decode prog_8_method_10_code 37 = .ok (.iadd, 1) := by decide +kernel
theorem d_O_memberAt_38 : decode prog_8_method_10_code 38 = .ok (.if_icmp .ge 5, 3) := by decide +kernel
theorem d_O_memberAt_41 : decode prog_8_method_10_code 41 = .ok (.iload_n 3, 1) := by decide +kernel
theorem d_O_memberAt_42 : decode prog_8_method_10_code 42 = .ok (.ireturn, 1) := by decide +kernel
theorem d_O_memberAt_49 : decode prog_8_method_10_code 49 = .ok (.iconst (-1), 1) := by decide +kernel
theorem d_O_memberAt_50 : decode prog_8_method_10_code 50 = .ok (.ireturn, 1) := by decide +kernel
theorem d_O_letterAt_0 : decode prog_8_method_9_code 0 = .ok (.iload_n 1, 1) := by decide +kernel
theorem d_O_letterAt_1 : decode prog_8_method_9_code 1 = .ok (.aload_n 0, 1) := by decide +kernel
theorem d_O_letterAt_2 : decode prog_8_method_9_code 2 = .ok (.invokevirtual 79, 3) := by decide +kernel
theorem d_O_letterAt_5 : decode prog_8_method_9_code 5 = .ok (.if_icmp .lt 5, 3) := by decide +kernel
theorem d_O_letterAt_10 : decode prog_8_method_9_code 10 = .ok (.iconst 0, 1) := by decide +kernel
theorem d_O_letterAt_11 : decode prog_8_method_9_code 11 = .ok (.istore_n 3, 1) := by decide +kernel
theorem d_O_letterAt_12 : decode prog_8_method_9_code 12 = .ok (.iload_n 1, 1) := by decide +kernel
theorem d_O_letterAt_13 : decode prog_8_method_9_code 13 = .ok (.istore 4, 2) := by decide +kernel
theorem d_O_letterAt_15 : decode prog_8_method_9_code 15 = .ok (.iconst (-1), 1) := by decide +kernel
theorem d_O_letterAt_16 : decode prog_8_method_9_code 16 = .ok (.istore 5, 2) := by decide +kernel
theorem d_O_letterAt_18 : decode prog_8_method_9_code 18 = .ok (.iconst 0, 1) := by decide +kernel
theorem d_O_letterAt_19 : decode prog_8_method_9_code 19 = .ok (.istore 6, 2) := by decide +kernel
theorem d_O_letterAt_21 : decode prog_8_method_9_code 21 = .ok (.iload 6, 2) := by decide +kernel
theorem d_O_letterAt_23 : decode prog_8_method_9_code 23 = .ok (.iload_n 2, 1) := by decide +kernel
theorem d_O_letterAt_24 : decode prog_8_method_9_code 24 = .ok (.if_icmp .gt 64, 3) := by decide +kernel
theorem d_O_letterAt_27 : decode prog_8_method_9_code 27 = .ok (.iload 6, 2) := by decide +kernel
theorem d_O_letterAt_29 : decode prog_8_method_9_code 29 = .ok (.aload_n 0, 1) := by decide +kernel
theorem d_O_letterAt_30 : decode prog_8_method_9_code 30 = .ok (.getfield 68, 3) := by decide +kernel
theorem d_O_letterAt_33 : decode prog_8_method_9_code 33 = .ok (.if_icmp .ge 55, 3) := by decide +kernel
theorem d_O_letterAt_36 : decode prog_8_method_9_code 36 = .ok (.aload_n 0, 1) := by decide +kernel
theorem d_O_letterAt_37 : decode prog_8_method_9_code 37 = .ok (.iload_n 3, 1) := by decide +kernel
theorem d_O_letterAt_38 : decode prog_8_method_9_code 38 = .ok (.iload 4, 2) := by decide +kernel
theorem d_O_letterAt_40 : decode prog_8_method_9_code 40 = .ok (.invokevirtual 83, 3) := by decide +kernel
theorem d_O_letterAt_43 : decode prog_8_method_9_code 43 = .ok (.istore 7, 2) := by decide +kernel
theorem d_O_letterAt_45 : decode prog_8_method_9_code 45 = .ok (.iload 7, 2) := by decide +kernel
theorem d_O_letterAt_47 : decode prog_8_method_9_code 47 = .ok (.iconst (-1), 1) := by decide +kernel
theorem d_O_letterAt_48 : decode prog_8_method_9_code 48 = .ok (.if_icmp .ne 5, 3) := by decide +kernel
theorem d_O_letterAt_53 : decode prog_8_method_9_code 53 = .ok (.iload 4, 2) := by decide +kernel
theorem d_O_letterAt_55 : decode prog_8_method_9_code 55 = .ok (.aload_n 0, 1) := by decide +kernel
theorem d_O_letterAt_56 : decode prog_8_method_9_code 56 = .ok (.iload_n 3, 1) := by decide +kernel
theorem d_O_letterAt_57 : decode prog_8_method_9_code 57 = .ok (.iload 7, 2) := by decide +kernel
theorem d_O_letterAt_59 : decode prog_8_method_9_code 59 = .ok (.invokevirtual 87, 3) := by decide +kernel
theorem d_O_letterAt_62 : decode prog_8_method_9_code 62 = .ok (.isub, 1) := by decide +kernel
theorem d_O_letterAt_63 : decode prog_8_method_9_code 63 = .ok (.istore 4, 2) := by decide +kernel
theorem d_O_letterAt_65 : decode prog_8_method_9_code 65 = .ok (.iload_n 3, 1) := by decide +kernel
theorem d_O_letterAt_66 : decode prog_8_method_9_code 66 = .ok (.iload 7, 2) := by decide +kernel
theorem d_O_letterAt_68 : decode prog_8_method_9_code 68 = .ok (.invokestatic 43, 3) := by decide +kernel
theorem d_O_letterAt_71 : decode prog_8_method_9_code 71 = .ok (.ior, 1) := by decide +kernel
theorem d_O_letterAt_72 : decode prog_8_method_9_code 72 = .ok (.istore_n 3, 1) := by decide +kernel
theorem d_O_letterAt_73 : decode prog_8_method_9_code 73 = .ok (.aload_n 0, 1) := by decide +kernel
theorem d_O_letterAt_74 : decode prog_8_method_9_code 74 = .ok (.getfield 18, 3) := by decide +kernel
theorem d_O_letterAt_77 : decode prog_8_method_9_code 77 = .ok (.iload 7, 2) := by decide +kernel
theorem d_O_letterAt_79 : decode prog_8_method_9_code 79 = .ok (.iaload, 1) := by decide +kernel
theorem d_O_letterAt_80 : decode prog_8_method_9_code 80 = .ok (.istore 5, 2) := by decide +kernel
theorem d_O_letterAt_82 : decode prog_8_method_9_code 82 = .ok (.iinc 6 1, 3) := by decide +kernel
theorem d_O_letterAt_85 : decode prog_8_method_9_code 85 = .ok (.goto (-64), 3) := by decide +kernel
theorem d_O_letterAt_51 : decode prog_8_method_9_code 51 = .ok (.iconst (-1), 1) := by decide +kernel
theorem d_O_letterAt_52 : decode prog_8_method_9_code 52 = .ok (.ireturn, 1) := by decide +kernel
theorem d_O_letterAt_88 : decode prog_8_method_9_code 88 = .ok (.iload 5, 2) := by decide +kernel
theorem d_O_letterAt_90 : decode prog_8_method_9_code 90 = .ok (.ireturn, 1) := by decide +kernel
theorem d_O_letterAt_8 : decode prog_8_method_9_code 8 = .ok (.iconst (-1), 1) := by decide +kernel
theorem d_O_letterAt_9 : decode prog_8_method_9_code 9 = .ok (.ireturn, 1) := by decide +kernel
theorem d_C_order_0 : decode prog_1_method_37_code 0 = .ok (.aload_n 0, 1) := by decide +kernel
theorem d_C_order_1 : decode prog_1_method_37_code 1 = .ok (.getfield 77, 3) := by decide +kernel
theorem d_C_order_4 : decode prog_1_method_37_code 4 = .ok (.iload_n 1, 1) := by decide +kernel
theorem d_C_order_5 : decode prog_1_method_37_code 5 = .ok (.invokevirtual 305, 3) := by decide +kernel
theorem d_C_order_8 : decode prog_1_method_37_code 8 = .ok (.ifCond .eq 22, 3) := by decide +kernel
theorem d_C_order_30 : decode prog_1_method_37_code 30 = .ok (.iconst (-1), 1) := by decide +kernel
theorem d_C_order_31 : decode prog_1_method_37_code 31 = .ok (.ireturn, 1) := by decide +kernel
theorem d_C_order_11 : decode prog_1_method_37_code 11 = .ok (.iload_n 2, 1) := by decide +kernel
theorem d_C_order_12 : decode prog_1_method_37_code 12 = .ok (.ifCond .lt 18, 3) := by decide +kernel
theorem d_C_order_15 : decode prog_1_method_37_code 15 = .ok (.iload_n 3, 1) := by decide +kernel
theorem d_C_order_16 : decode prog_1_method_37_code 16 = .ok (.ifCond .lt 14, 3) := by decide +kernel
theorem d_C_order_19 : decode prog_1_method_37_code 19 = .ok (.iload_n 3, 1) := by decide +kernel
theorem d_C_order_20 : decode prog_1_method_37_code 20 = .ok (.aload_n 0, 1) := by decide +kernel
theorem d_C_order_21 : decode prog_1_method_37_code 21 = .ok (.getfield 77, 3) := by decide +kernel
theorem d_C_order_24 : decode prog_1_method_37_code 24 = .ok (.getfield 312, 3) := by decide +kernel
theorem d_C_order_27 : decode prog_1_method_37_code 27 = .ok (.if_icmp .lt 5, 3) := by decide +kernel
theorem d_C_order_32 : decode prog_1_method_37_code 32 = .ok (.aload_n 0, 1) := by decide +kernel
theorem d_C_order_33 : decode prog_1_method_37_code 33 = .ok (.getfield 77, 3) := by decide +kernel
theorem d_C_order_36 : decode prog_1_method_37_code 36 = .ok (.iload_n 2, 1) := by decide +kernel
theorem d_C_order_37 : decode prog_1_method_37_code 37 = .ok (.iload_n 3, 1) := by decide +kernel
theorem d_C_order_38 : decode prog_1_method_37_code 38 = .ok (.invokevirtual 313, 3) := by decide +kernel
theorem d_C_order_41 : decode prog_1_method_37_code 41 = .ok (.ireturn, 1) := by decide +kernel
theorem d_C_first_0 : decode prog_1_method_38_code 0 = .ok (.aload_n 0, 1) := by decide +kernel
theorem d_C_first_1 : decode prog_1_method_38_code 1 = .ok (.getfield 77, 3) := by decide +kernel
theorem d_C_first_4 : decode prog_1_method_38_code 4 = .ok (.iload_n 1, 1) := by decide +kernel
theorem d_C_first_5 : decode prog_1_method_38_code 5 = .ok (.invokevirtual 305, 3) := by decide +kernel
theorem d_C_first_8 : decode prog_1_method_38_code 8 = .ok (.ifCond .eq 24, 3) := by decide +kernel
theorem d_C_first_32 : decode prog_1_method_38_code 32 = .ok (.iconst (-1), 1) := by decide +kernel
theorem d_C_first_33 : decode prog_1_method_38_code 33 = .ok (.ireturn, 1) := by decide +kernel
theorem d_C_first_11 : decode prog_1_method_38_code 11 = .ok (.iload_n 2, 1) := by decide +kernel
theorem d_C_first_12 : decode prog_1_method_38_code 12 = .ok (.iload_n 3, 1) := by decide +kernel
theorem d_C_first_13 : decode prog_1_method_38_code 13 = .ok (.if_icmp .eq 19, 3) := by decide +kernel
theorem d_C_first_16 : decode prog_1_method_38_code 16 = .ok (.iload_n 1, 1) := by decide +kernel
theorem d_C_first_17 : decode prog_1_method_38_code 17 = .ok (.iload_n 2, 1) := by decide +kernel
theorem d_C_first_18 : decode prog_1_method_38_code 18 = .ok (.invokestatic 110, 3) := by decide +kernel
theorem d_C_first_21 : decode prog_1_method_38_code 21 = .ok (.ifCond .eq 11, 3) := by decide +kernel
theorem d_C_first_24 : decode prog_1_method_38_code 24 = .ok (.iload_n 1, 1) := by decide +kernel
theorem d_C_first_25 : decode prog_1_method_38_code 25 = .ok (.iload_n 3, 1) := by decide +kernel
theorem d_C_first_26 : decode prog_1_method_38_code 26 = .ok (.invokestatic 110, 3) := by decide +kernel
theorem d_C_first_29 : decode prog_1_method_38_code 29 = .ok (.ifCond .ne 5, 3) := by decide +kernel
theorem d_C_first_34 : decode prog_1_method_38_code 34 = .ok (.aload_n 0, 1) := by decide +kernel
theorem d_C_first_35 : decode prog_1_method_38_code 35 = .ok (.getfield 77, 3) := by decide +kernel
theorem d_C_first_38 : decode prog_1_method_38_code 38 = .ok (.iload_n 2, 1) := by decide +kernel
theorem d_C_first_39 : decode prog_1_method_38_code 39 = .ok (.iload_n 3, 1) := by decide +kernel
theorem d_C_first_40 : decode prog_1_method_38_code 40 = .ok (.invokevirtual 314, 3) := by decide +kernel
theorem d_C_first_43 : decode prog_1_method_38_code 43 = .ok (.aload_n 0, 1) := by decide +kernel
theorem d_C_first_44 : decode prog_1_method_38_code 44 = .ok (.getfield 77, 3) := by decide +kernel
theorem d_C_first_47 : decode prog_1_method_38_code 47 = .ok (.invokevirtual 308, 3) := by decide +kernel
theorem d_C_first_50 : decode prog_1_method_38_code 50 = .ok (.ireturn, 1) := by decide +kernel
theorem d_O_goOnFrom_0 : decode prog_8_method_14_code 0 = .ok (.iconst 0, 1) := by decide +kernel
theorem d_O_goOnFrom_1 : decode prog_8_method_14_code 1 = .ok (.istore_n 2, 1) := by decide +kernel
theorem d_O_goOnFrom_2 : decode prog_8_method_14_code 2 = .ok (.iload_n 2, 1) := by decide +kernel
theorem d_O_goOnFrom_3 : decode prog_8_method_14_code 3 = .ok (.aload_n 0, 1) := by decide +kernel
theorem d_O_goOnFrom_4 : decode prog_8_method_14_code 4 = .ok (.getfield 68, 3) := by decide +kernel
theorem d_O_goOnFrom_7 : decode prog_8_method_14_code 7 = .ok (.if_icmp .ge 96, 3) := by decide +kernel
theorem d_O_goOnFrom_10 : decode prog_8_method_14_code 10 = .ok (.aload_n 0, 1) := by decide +kernel
theorem d_O_goOnFrom_11 : decode prog_8_method_14_code 11 = .ok (.iload_n 2, 1) := by decide +kernel
theorem d_O_goOnFrom_12 : decode prog_8_method_14_code 12 = .ok (.iload_n 1, 1) := by decide +kernel
theorem d_O_goOnFrom_13 : decode prog_8_method_14_code 13 = .ok (.invokevirtual 76, 3) := by decide +kernel
theorem d_O_goOnFrom_16 : decode prog_8_method_14_code 16 = .ok (.ifCond .eq 81, 3) := by decide +kernel
theorem d_O_goOnFrom_97 : decode prog_8_method_14_code 97 = .ok (.iinc 2 1, 3) := by decide +kernel
theorem d_O_goOnFrom_100 : decode prog_8_method_14_code 100 = .ok (.goto (-98), 3) := by decide +kernel
theorem d_O_goOnFrom_19 : decode prog_8_method_14_code 19 = .ok (.iload_n 1, 1) := by decide +kernel
theorem d_O_goOnFrom_20 : decode prog_8_method_14_code 20 = .ok (.iload_n 2, 1) := by decide +kernel
theorem d_O_goOnFrom_21 : decode prog_8_method_14_code 21 = .ok (.invokestatic 43, 3) := by decide +kernel
theorem d_O_goOnFrom_24 : decode prog_8_method_14_code 24 = .ok (.ior, 1) := by decide +kernel
theorem d_O_goOnFrom_25 : decode prog_8_method_14_code 25 = .ok (.istore_n 3, 1) := by decide +kernel
theorem d_O_goOnFrom_26 : decode prog_8_method_14_code 26 = .ok (.aload_n 0, 1) := by decide +kernel
theorem d_O_goOnFrom_27 : decode prog_8_method_14_code 27 = .ok (.getfield 27, 3) := by decide +kernel
theorem d_O_goOnFrom_30 : decode prog_8_method_14_code 30 = .ok (.iload_n 3, 1) := by decide +kernel
theorem d_O_goOnFrom_31 : decode prog_8_method_14_code 31 = .ok (.dup2, 1) := by decide +kernel
theorem d_O_goOnFrom_32 : decode prog_8_method_14_code 32 = .ok (.iaload, 1) := by decide +kernel
theorem d_O_goOnFrom_33 : decode prog_8_method_14_code 33 = .ok (.aload_n 0, 1) := by decide +kernel
theorem d_O_goOnFrom_34 : decode prog_8_method_14_code 34 = .ok (.getfield 27, 3) := by decide +kernel
theorem d_O_goOnFrom_37 : decode prog_8_method_14_code 37 = .ok (.iload_n 1, 1) := by decide +kernel
theorem d_O_goOnFrom_38 : decode prog_8_method_14_code 38 = .ok (.iaload, 1) := by decide +kernel
theorem d_O_goOnFrom_39 : decode prog_8_method_14_code 39 = .ok (.iadd, 1) := by decide +kernel
theorem d_O_goOnFrom_40 : decode prog_8_method_14_code 40 = .ok (.iastore, 1) := by decide +kernel
theorem d_O_goOnFrom_41 : decode prog_8_method_14_code 41 = .ok (.aload_n 0, 1) := by decide +kernel
theorem d_O_goOnFrom_42 : decode prog_8_method_14_code 42 = .ok (.getfield 27, 3) := by decide +kernel
theorem d_O_goOnFrom_45 : decode prog_8_method_14_code 45 = .ok (.iload_n 1, 1) := by decide +kernel
theorem d_O_goOnFrom_46 : decode prog_8_method_14_code 46 = .ok (.iaload, 1) := by decide +kernel
theorem d_O_goOnFrom_47 : decode prog_8_method_14_code 47 = .ok (.aload_n 0, 1) := by decide +kernel
theorem d_O_goOnFrom_48 : decode prog_8_method_14_code 48 = .ok (.getfield 24, 3) := by decide +kernel
theorem d_O_goOnFrom_51 : decode prog_8_method_14_code 51 = .ok (.iload_n 3, 1) := by decide +kernel
theorem d_O_goOnFrom_52 : decode prog_8_method_14_code 52 = .ok (.iaload, 1) := by decide +kernel
theorem d_O_goOnFrom_53 : decode prog_8_method_14_code 53 = .ok (.imul, 1) := by decide +kernel
theorem d_O_goOnFrom_54 : decode prog_8_method_14_code 54 = .ok (.istore 4, 2) := by decide +kernel
theorem d_O_goOnFrom_56 : decode prog_8_method_14_code 56 = .ok (.iconst 0, 1) := by decide +kernel
theorem d_O_goOnFrom_57 : decode prog_8_method_14_code 57 = .ok (.istore 5, 2) := by decide +kernel
theorem d_O_goOnFrom_59 : decode prog_8_method_14_code 59 = .ok (.iload 5, 2) := by decide +kernel
theorem d_O_goOnFrom_61 : decode prog_8_method_14_code 61 = .ok (.aload_n 0, 1) := by decide +kernel
theorem d_O_goOnFrom_62 : decode prog_8_method_14_code 62 = .ok (.getfield 68, 3) := by decide +kernel
theorem d_O_goOnFrom_65 : decode prog_8_method_14_code 65 = .ok (.if_icmp .ge 32, 3) := by decide +kernel
theorem d_O_goOnFrom_68 : decode prog_8_method_14_code 68 = .ok (.iload_n 3, 1) := by decide +kernel
theorem d_O_goOnFrom_69 : decode prog_8_method_14_code 69 = .ok (.iload 5, 2) := by decide +kernel
theorem d_O_goOnFrom_71 : decode prog_8_method_14_code 71 = .ok (.invokestatic 55, 3) := by decide +kernel
theorem d_O_goOnFrom_74 : decode prog_8_method_14_code 74 = .ok (.ifCond .ne 17, 3) := by decide +kernel
theorem d_O_goOnFrom_91 : decode prog_8_method_14_code 91 = .ok (.iinc 5 1, 3) := by decide +kernel
theorem d_O_goOnFrom_94 : decode prog_8_method_14_code 94 = .ok (.goto (-35), 3) := by decide +kernel
theorem d_O_goOnFrom_77 : decode prog_8_method_14_code 77 = .ok (.aload_n 0, 1) := by decide +kernel
theorem d_O_goOnFrom_78 : decode prog_8_method_14_code 78 = .ok (.getfield 32, 3) := by decide +kernel
theorem d_O_goOnFrom_81 : decode prog_8_method_14_code 81 = .ok (.iload_n 2, 1) := by decide +kernel
theorem d_O_goOnFrom_82 : decode prog_8_method_14_code 82 = .ok (.aaload, 1) := by decide +kernel
theorem d_O_goOnFrom_83 : decode prog_8_method_14_code 83 = .ok (.iload 5, 2) := by decide +kernel
theorem d_O_goOnFrom_85 : decode prog_8_method_14_code 85 = .ok (.dup2, 1) := by decide +kernel
theorem d_O_goOnFrom_86 : decode prog_8_method_14_code 86 = .ok (.iaload, 1) := by decide +kernel
theorem d_O_goOnFrom_87 : decode prog_8_method_14_code 87 = .ok (.iload 4, 2) := by decide +kernel
theorem d_O_goOnFrom_89 : decode prog_8_method_14_code 89 = .ok (.iadd, 1) := by decide +kernel
theorem d_O_goOnFrom_90 : decode prog_8_method_14_code 90 = .ok (.iastore, 1) := by decide +kernel
theorem d_O_goOnFrom_103 : decode prog_8_method_14_code 103 = .ok (.return_, 1) := by decide +kernel
theorem d_O_countAhead_0 : decode prog_8_method_13_code 0 = .ok (.iconst 0, 1) := by decide +kernel
theorem d_O_countAhead_1 : decode prog_8_method_13_code 1 = .ok (.istore_n 1, 1) := by decide +kernel
theorem d_O_countAhead_2 : decode prog_8_method_13_code 2 = .ok (.iload_n 1, 1) := by decide +kernel
theorem d_O_countAhead_3 : decode prog_8_method_13_code 3 = .ok (.aload_n 0, 1) := by decide +kernel
theorem d_O_countAhead_4 : decode prog_8_method_13_code 4 = .ok (.getfield 68, 3) := by decide +kernel
theorem d_O_countAhead_7 : decode prog_8_method_13_code 7 = .ok (.if_icmp .ge 34, 3) := by decide +kernel
theorem d_O_countAhead_10 : decode prog_8_method_13_code 10 = .ok (.iconst 0, 1) := by decide +kernel
theorem d_O_countAhead_11 : decode prog_8_method_13_code 11 = .ok (.istore_n 2, 1) := by decide +kernel
theorem d_O_countAhead_12 : decode prog_8_method_13_code 12 = .ok (.iload_n 2, 1) := by decide +kernel
theorem d_O_countAhead_13 : decode prog_8_method_13_code 13 = .ok (.aload_n 0, 1) := by decide +kernel
theorem d_O_countAhead_14 : decode prog_8_method_13_code 14 = .ok (.getfield 68, 3) := by decide +kernel
theorem d_O_countAhead_17 : decode prog_8_method_13_code 17 = .ok (.if_icmp .ge 18, 3) := by decide +kernel
theorem d_O_countAhead_20 : decode prog_8_method_13_code 20 = .ok (.aload_n 0, 1) := by decide +kernel
theorem d_O_countAhead_21 : decode prog_8_method_13_code 21 = .ok (.getfield 32, 3) := by decide +kernel
theorem d_O_countAhead_24 : decode prog_8_method_13_code 24 = .ok (.iload_n 1, 1) := by decide +kernel
theorem d_O_countAhead_25 : decode prog_8_method_13_code 25 = .ok (.aaload, 1) := by decide +kernel
theorem d_O_countAhead_26 : decode prog_8_method_13_code 26 = .ok (.iload_n 2, 1) := by decide +kernel
theorem d_O_countAhead_27 : decode prog_8_method_13_code 27 = .ok (.iconst 0, 1) := by decide +kernel
theorem d_O_countAhead_28 : decode prog_8_method_13_code 28 = .ok (.iastore, 1) := by decide +kernel
theorem d_O_countAhead_29 : decode prog_8_method_13_code 29 = .ok (.iinc 2 1, 3) := by decide +kernel
theorem d_O_countAhead_32 : decode prog_8_method_13_code 32 = .ok (.goto (-20), 3) := by decide +kernel
theorem d_O_countAhead_35 : decode prog_8_method_13_code 35 = .ok (.iinc 1 1, 3) := by decide +kernel
theorem d_O_countAhead_38 : decode prog_8_method_13_code 38 = .ok (.goto (-36), 3) := by decide +kernel
theorem d_O_countAhead_41 : decode prog_8_method_13_code 41 = .ok (.aload_n 0, 1) := by decide +kernel
theorem d_O_countAhead_42 : decode prog_8_method_13_code 42 = .ok (.getfield 68, 3) := by decide +kernel
theorem d_O_countAhead_45 : decode prog_8_method_13_code 45 = .ok (.invokestatic 43, 3) := by decide +kernel
theorem d_O_countAhead_48 : decode prog_8_method_13_code 48 = .ok (.iconst 1, 1) := by decide +kernel
theorem d_O_countAhead_49 : decode prog_8_method_13_code 49 = .ok (.isub, 1) := by decide +kernel
theorem d_O_countAhead_50 : decode prog_8_method_13_code 50 = .ok (.istore_n 1, 1) := by decide +kernel
theorem d_O_countAhead_51 : decode prog_8_method_13_code 51 = .ok (.iconst 0, 1) := by decide +kernel
theorem d_O_countAhead_52 : decode prog_8_method_13_code 52 = .ok (.istore_n 2, 1) := by decide +kernel
theorem d_O_countAhead_53 : decode prog_8_method_13_code 53 = .ok (.iload_n 2, 1) := by decide +kernel
theorem d_O_countAhead_54 : decode prog_8_method_13_code 54 = .ok (.iload_n 1, 1) := by decide +kernel
theorem d_O_countAhead_55 : decode prog_8_method_13_code 55 = .ok (.if_icmp .gt 24, 3) := by decide +kernel
theorem d_O_countAhead_58 : decode prog_8_method_13_code 58 = .ok (.aload_n 0, 1) := by decide +kernel
theorem d_O_countAhead_59 : decode prog_8_method_13_code 59 = .ok (.getfield 27, 3) := by decide +kernel
theorem d_O_countAhead_62 : decode prog_8_method_13_code 62 = .ok (.iload_n 2, 1) := by decide +kernel
theorem d_O_countAhead_63 : decode prog_8_method_13_code 63 = .ok (.iload_n 2, 1) := by decide +kernel
theorem d_O_countAhead_64 : decode prog_8_method_13_code 64 = .ok (.ifCond .ne 7, 3) := by decide +kernel
theorem d_O_countAhead_71 : decode prog_8_method_13_code 71 = .ok (.iconst 0, 1) := by decide +kernel
theorem d_O_countAhead_72 : decode prog_8_method_13_code 72 = .ok (.iastore, 1) := by decide +kernel
theorem d_O_countAhead_73 : decode prog_8_method_13_code 73 = .ok (.iinc 2 1, 3) := by decide +kernel
theorem d_O_countAhead_76 : decode prog_8_method_13_code 76 = .ok (.goto (-23), 3) := by decide +kernel
theorem d_O_countAhead_67 : decode prog_8_method_13_code 67 = .ok (.iconst 1, 1) := by decide +kernel
theorem d_O_countAhead_68 : decode prog_8_method_13_code 68 = .ok (.goto 4, 3) := by decide +kernel
theorem d_O_countAhead_79 : decode prog_8_method_13_code 79 = .ok (.iconst 0, 1) := by decide +kernel
theorem d_O_countAhead_80 : decode prog_8_method_13_code 80 = .ok (.istore_n 2, 1) := by decide +kernel
theorem d_O_countAhead_81 : decode prog_8_method_13_code 81 = .ok (.iload_n 2, 1) := by decide +kernel
theorem d_O_countAhead_82 : decode prog_8_method_13_code 82 = .ok (.iload_n 1, 1) := by decide +kernel
theorem d_O_countAhead_83 : decode prog_8_method_13_code 83 = .ok (.if_icmp .ge 23, 3) := by decide +kernel
theorem d_O_countAhead_86 : decode prog_8_method_13_code 86 = .ok (.aload_n 0, 1) := by decide +kernel
theorem d_O_countAhead_87 : decode prog_8_method_13_code 87 = .ok (.getfield 27, 3) := by decide +kernel
theorem d_O_countAhead_90 : decode prog_8_method_13_code 90 = .ok (.iload_n 2, 1) := by decide +kernel
theorem d_O_countAhead_91 : decode prog_8_method_13_code 91 = .ok (.iaload, 1) := by decide +kernel
theorem d_O_countAhead_92 : decode prog_8_method_13_code 92 = .ok (.ifCond .eq 8, 3) := by decide +kernel
theorem d_O_countAhead_100 : decode prog_8_method_13_code 100 = .ok (.iinc 2 1, 3) := by decide +kernel
theorem d_O_countAhead_103 : decode prog_8_method_13_code 103 = .ok (.goto (-22), 3) := by decide +kernel
theorem d_O_countAhead_95 : decode prog_8_method_13_code 95 = .ok (.aload_n 0, 1) := by decide +kernel
theorem d_O_countAhead_96 : decode prog_8_method_13_code 96 = .ok (.iload_n 2, 1) := by decide +kernel
theorem d_O_countAhead_97 : decode prog_8_method_13_code 97 = .ok (.invokevirtual 98, 3) := by decide +kernel
theorem d_O_countAhead_106 : decode prog_8_method_13_code 106 = .ok (.return_, 1) := by decide +kernel
theorem d_O_bestQuestion_0 : decode prog_8_method_12_code 0 = .ok (.aload_n 0, 1) := by decide +kernel
theorem d_O_bestQuestion_1 : decode prog_8_method_12_code 1 = .ok (.getfield 68, 3) := by decide +kernel
theorem d_O_bestQuestion_4 : decode prog_8_method_12_code 4 = .ok (.iconst 2, 1) := by decide +kernel
theorem d_O_bestQuestion_5 : decode prog_8_method_12_code 5 = .ok (.if_icmp .ge 5, 3) := by decide +kernel
theorem d_O_bestQuestion_10 : decode prog_8_method_12_code 10 = .ok (.aload_n 0, 1) := by decide +kernel
theorem d_O_bestQuestion_11 : decode prog_8_method_12_code 11 = .ok (.invokevirtual 79, 3) := by decide +kernel
theorem d_O_bestQuestion_14 : decode prog_8_method_12_code 14 = .ok (.istore_n 1, 1) := by decide +kernel
theorem d_O_bestQuestion_15 : decode prog_8_method_12_code 15 = .ok (.aload_n 0, 1) := by decide +kernel
theorem d_O_bestQuestion_16 : decode prog_8_method_12_code 16 = .ok (.invokevirtual 90, 3) := by decide +kernel
theorem d_O_bestQuestion_19 : decode prog_8_method_12_code 19 = .ok (.iconst (-1), 1) := by decide +kernel
theorem d_O_bestQuestion_20 : decode prog_8_method_12_code 20 = .ok (.istore_n 2, 1) := by decide +kernel
theorem d_O_bestQuestion_21 : decode prog_8_method_12_code 21 = .ok (.iconst (-1), 1) := by decide +kernel
theorem d_O_bestQuestion_22 : decode prog_8_method_12_code 22 = .ok (.istore_n 3, 1) := by decide +kernel
theorem d_O_bestQuestion_23 : decode prog_8_method_12_code 23 = .ok (.iconst 0, 1) := by decide +kernel
theorem d_O_bestQuestion_24 : decode prog_8_method_12_code 24 = .ok (.istore 4, 2) := by decide +kernel
theorem d_O_bestQuestion_26 : decode prog_8_method_12_code 26 = .ok (.iload 4, 2) := by decide +kernel
theorem d_O_bestQuestion_28 : decode prog_8_method_12_code 28 = .ok (.aload_n 0, 1) := by decide +kernel
theorem d_O_bestQuestion_29 : decode prog_8_method_12_code 29 = .ok (.getfield 68, 3) := by decide +kernel
theorem d_O_bestQuestion_32 : decode prog_8_method_12_code 32 = .ok (.if_icmp .ge 85, 3) := by decide +kernel
theorem d_O_bestQuestion_35 : decode prog_8_method_12_code 35 = .ok (.iload 4, 2) := by decide +kernel
theorem d_O_bestQuestion_37 : decode prog_8_method_12_code 37 = .ok (.iconst 1, 1) := by decide +kernel
theorem d_O_bestQuestion_38 : decode prog_8_method_12_code 38 = .ok (.iadd, 1) := by decide +kernel
theorem d_O_bestQuestion_39 : decode prog_8_method_12_code 39 = .ok (.istore 5, 2) := by decide +kernel
theorem d_O_bestQuestion_41 : decode prog_8_method_12_code 41 = .ok (.iload 5, 2) := by decide +kernel
theorem d_O_bestQuestion_43 : decode prog_8_method_12_code 43 = .ok (.aload_n 0, 1) := by decide +kernel
theorem d_O_bestQuestion_44 : decode prog_8_method_12_code 44 = .ok (.getfield 68, 3) := by decide +kernel
theorem d_O_bestQuestion_47 : decode prog_8_method_12_code 47 = .ok (.if_icmp .ge 64, 3) := by decide +kernel
theorem d_O_bestQuestion_50 : decode prog_8_method_12_code 50 = .ok (.aload_n 0, 1) := by decide +kernel
theorem d_O_bestQuestion_51 : decode prog_8_method_12_code 51 = .ok (.getfield 32, 3) := by decide +kernel
theorem d_O_bestQuestion_54 : decode prog_8_method_12_code 54 = .ok (.iload 4, 2) := by decide +kernel
theorem d_O_bestQuestion_56 : decode prog_8_method_12_code 56 = .ok (.aaload, 1) := by decide +kernel
theorem d_O_bestQuestion_57 : decode prog_8_method_12_code 57 = .ok (.iload 5, 2) := by decide +kernel
theorem d_O_bestQuestion_59 : decode prog_8_method_12_code 59 = .ok (.iaload, 1) := by decide +kernel
theorem d_O_bestQuestion_60 : decode prog_8_method_12_code 60 = .ok (.iload_n 1, 1) := by decide +kernel
theorem d_O_bestQuestion_61 : decode prog_8_method_12_code 61 = .ok (.aload_n 0, 1) := by decide +kernel
theorem d_O_bestQuestion_62 : decode prog_8_method_12_code 62 = .ok (.getfield 32, 3) := by decide +kernel
theorem d_O_bestQuestion_65 : decode prog_8_method_12_code 65 = .ok (.iload 4, 2) := by decide +kernel
theorem d_O_bestQuestion_67 : decode prog_8_method_12_code 67 = .ok (.aaload, 1) := by decide +kernel
theorem d_O_bestQuestion_68 : decode prog_8_method_12_code 68 = .ok (.iload 5, 2) := by decide +kernel
theorem d_O_bestQuestion_70 : decode prog_8_method_12_code 70 = .ok (.iaload, 1) := by decide +kernel
theorem d_O_bestQuestion_71 : decode prog_8_method_12_code 71 = .ok (.isub, 1) := by decide +kernel
theorem d_O_bestQuestion_72 : decode prog_8_method_12_code 72 = .ok (.invokestatic 93, 3) := by decide +kernel
theorem d_O_bestQuestion_75 : decode prog_8_method_12_code 75 = .ok (.istore 6, 2) := by decide +kernel
theorem d_O_bestQuestion_77 : decode prog_8_method_12_code 77 = .ok (.iload 6, 2) := by decide +kernel
theorem d_O_bestQuestion_79 : decode prog_8_method_12_code 79 = .ok (.iload_n 3, 1) := by decide +kernel
theorem d_O_bestQuestion_80 : decode prog_8_method_12_code 80 = .ok (.if_icmp .le 25, 3) := by decide +kernel
theorem d_O_bestQuestion_105 : decode prog_8_method_12_code 105 = .ok (.iinc 5 1, 3) := by decide +kernel
theorem d_O_bestQuestion_108 : decode prog_8_method_12_code 108 = .ok (.goto (-67), 3) := by decide +kernel
theorem d_O_bestQuestion_83 : decode prog_8_method_12_code 83 = .ok (.iload 6, 2) := by decide +kernel
theorem d_O_bestQuestion_85 : decode prog_8_method_12_code 85 = .ok (.istore_n 3, 1) := by decide +kernel
theorem d_O_bestQuestion_86 : decode prog_8_method_12_code 86 = .ok (.bipush 32, 2) := by decide +kernel
theorem d_O_bestQuestion_88 : decode prog_8_method_12_code 88 = .ok (.aload_n 0, 1) := by decide +kernel
theorem d_O_bestQuestion_89 : decode prog_8_method_12_code 89 = .ok (.getfield 18, 3) := by decide +kernel
theorem d_O_bestQuestion_92 : decode prog_8_method_12_code 92 = .ok (.iload 4, 2) := by decide +kernel
theorem d_O_bestQuestion_94 : decode prog_8_method_12_code 94 = .ok (.iaload, 1) := by decide +kernel
theorem d_O_bestQuestion_95 : decode prog_8_method_12_code 95 = .ok (.imul, 1) := by decide +kernel
theorem d_O_bestQuestion_96 : decode prog_8_method_12_code 96 = .ok (.aload_n 0, 1) := by decide +kernel
theorem d_O_bestQuestion_97 : decode prog_8_method_12_code 97 = .ok (.getfield 18, 3) := by decide +kernel
theorem d_O_bestQuestion_100 : decode prog_8_method_12_code 100 = .ok (.iload 5, 2) := by decide +kernel
theorem d_O_bestQuestion_102 : decode prog_8_method_12_code 102 = .ok (.iaload, 1) := by decide +kernel
theorem d_O_bestQuestion_103 : decode prog_8_method_12_code 103 = .ok (.iadd, 1) := by decide +kernel
theorem d_O_bestQuestion_104 : decode prog_8_method_12_code 104 = .ok (.istore_n 2, 1) := by decide +kernel
theorem d_O_bestQuestion_111 : decode prog_8_method_12_code 111 = .ok (.iinc 4 1, 3) := by decide +kernel
theorem d_O_bestQuestion_114 : decode prog_8_method_12_code 114 = .ok (.goto (-88), 3) := by decide +kernel
theorem d_O_bestQuestion_117 : decode prog_8_method_12_code 117 = .ok (.iload_n 2, 1) := by decide +kernel
theorem d_O_bestQuestion_118 : decode prog_8_method_12_code 118 = .ok (.ireturn, 1) := by decide +kernel
theorem d_O_bestQuestion_8 : decode prog_8_method_12_code 8 = .ok (.iconst (-1), 1) := by decide +kernel
theorem d_O_bestQuestion_9 : decode prog_8_method_12_code 9 = .ok (.ireturn, 1) := by decide +kernel
theorem d_C_ask_0 : decode prog_1_method_39_code 0 = .ok (.aload_n 0, 1) := by decide +kernel
theorem d_C_ask_1 : decode prog_1_method_39_code 1 = .ok (.getfield 77, 3) := by decide +kernel
theorem d_C_ask_4 : decode prog_1_method_39_code 4 = .ok (.iload_n 1, 1) := by decide +kernel
theorem d_C_ask_5 : decode prog_1_method_39_code 5 = .ok (.invokevirtual 305, 3) := by decide +kernel
theorem d_C_ask_8 : decode prog_1_method_39_code 8 = .ok (.ifCond .eq 13, 3) := by decide +kernel
theorem d_C_ask_21 : decode prog_1_method_39_code 21 = .ok (.iconst (-1), 1) := by decide +kernel
theorem d_C_ask_22 : decode prog_1_method_39_code 22 = .ok (.ireturn, 1) := by decide +kernel
theorem d_C_ask_11 : decode prog_1_method_39_code 11 = .ok (.aload_n 0, 1) := by decide +kernel
theorem d_C_ask_12 : decode prog_1_method_39_code 12 = .ok (.getfield 77, 3) := by decide +kernel
theorem d_C_ask_15 : decode prog_1_method_39_code 15 = .ok (.invokevirtual 317, 3) := by decide +kernel
theorem d_C_ask_18 : decode prog_1_method_39_code 18 = .ok (.goto 4, 3) := by decide +kernel
theorem d_L_hanging_0 : decode prog_7_method_19_code 0 = .ok (.iconst 0, 1) := by decide +kernel
theorem d_L_hanging_1 : decode prog_7_method_19_code 1 = .ok (.istore_n 3, 1) := by decide +kernel
theorem d_L_hanging_2 : decode prog_7_method_19_code 2 = .ok (.iconst 0, 1) := by decide +kernel
theorem d_L_hanging_3 : decode prog_7_method_19_code 3 = .ok (.istore 4, 2) := by decide +kernel
theorem d_L_hanging_5 : decode prog_7_method_19_code 5 = .ok (.iload 4, 2) := by decide +kernel
theorem d_L_hanging_7 : decode prog_7_method_19_code 7 = .ok (.aload_n 0, 1) := by decide +kernel
theorem d_L_hanging_8 : decode prog_7_method_19_code 8 = .ok (.getfield 57, 3) := by decide +kernel
theorem d_L_hanging_11 : decode prog_7_method_19_code 11 = .ok (.if_icmp .ge 45, 3) := by decide +kernel
theorem d_L_hanging_14 : decode prog_7_method_19_code 14 = .ok (.iload_n 2, 1) := by decide +kernel
theorem d_L_hanging_15 : decode prog_7_method_19_code 15 = .ok (.ifCond .eq 13, 3) := by decide +kernel
theorem d_L_hanging_28 : decode prog_7_method_19_code 28 = .ok (.aload_n 0, 1) := by decide +kernel
theorem d_L_hanging_29 : decode prog_7_method_19_code 29 = .ok (.getfield 33, 3) := by decide +kernel
theorem d_L_hanging_32 : decode prog_7_method_19_code 32 = .ok (.iload 4, 2) := by decide +kernel
theorem d_L_hanging_34 : decode prog_7_method_19_code 34 = .ok (.iaload, 1) := by decide +kernel
theorem d_L_hanging_35 : decode prog_7_method_19_code 35 = .ok (.iload_n 1, 1) := by decide +kernel
theorem d_L_hanging_36 : decode prog_7_method_19_code 36 = .ok (.invokestatic 68, 3) := by decide +kernel
theorem d_L_hanging_39 : decode prog_7_method_19_code 39 = .ok (.ifCond .eq 11, 3) := by decide +kernel
theorem d_L_hanging_50 : decode prog_7_method_19_code 50 = .ok (.iinc 4 1, 3) := by decide +kernel
theorem d_L_hanging_53 : decode prog_7_method_19_code 53 = .ok (.goto (-48), 3) := by decide +kernel
theorem d_L_hanging_42 : decode prog_7_method_19_code 42 = .ok (.iload_n 3, 1) := by decide +kernel
theorem d_L_hanging_43 : decode prog_7_method_19_code 43 = .ok (.iload 4, 2) := by decide +kernel
theorem d_L_hanging_45 : decode prog_7_method_19_code 45 = .ok (.invokestatic 72, 3) := by decide +kernel
theorem d_L_hanging_48 : decode prog_7_method_19_code 48 = .ok (.ior, 1) := by decide +kernel
theorem d_L_hanging_49 : decode prog_7_method_19_code 49 = .ok (.istore_n 3, 1) := by decide +kernel
theorem d_L_hanging_18 : decode prog_7_method_19_code 18 = .ok (.aload_n 0, 1) := by decide +kernel
theorem d_L_hanging_19 : decode prog_7_method_19_code 19 = .ok (.getfield 36, 3) := by decide +kernel
theorem d_L_hanging_22 : decode prog_7_method_19_code 22 = .ok (.iload 4, 2) := by decide +kernel
theorem d_L_hanging_24 : decode prog_7_method_19_code 24 = .ok (.iaload, 1) := by decide +kernel
theorem d_L_hanging_25 : decode prog_7_method_19_code 25 = .ok (.goto 10, 3) := by decide +kernel
theorem d_L_hanging_56 : decode prog_7_method_19_code 56 = .ok (.iload_n 3, 1) := by decide +kernel
theorem d_L_hanging_57 : decode prog_7_method_19_code 57 = .ok (.ireturn, 1) := by decide +kernel
theorem d_L_isTakenBack_0 : decode prog_7_method_18_code 0 = .ok (.iconst 0, 1) := by decide +kernel
theorem d_L_isTakenBack_1 : decode prog_7_method_18_code 1 = .ok (.istore_n 2, 1) := by decide +kernel
theorem d_L_isTakenBack_2 : decode prog_7_method_18_code 2 = .ok (.iload_n 2, 1) := by decide +kernel
theorem d_L_isTakenBack_3 : decode prog_7_method_18_code 3 = .ok (.aload_n 0, 1) := by decide +kernel
theorem d_L_isTakenBack_4 : decode prog_7_method_18_code 4 = .ok (.getfield 57, 3) := by decide +kernel
theorem d_L_isTakenBack_7 : decode prog_7_method_18_code 7 = .ok (.if_icmp .ge 31, 3) := by decide +kernel
theorem d_L_isTakenBack_10 : decode prog_7_method_18_code 10 = .ok (.aload_n 0, 1) := by decide +kernel
theorem d_L_isTakenBack_11 : decode prog_7_method_18_code 11 = .ok (.getfield 18, 3) := by decide +kernel
theorem d_L_isTakenBack_14 : decode prog_7_method_18_code 14 = .ok (.iload_n 2, 1) := by decide +kernel
theorem d_L_isTakenBack_15 : decode prog_7_method_18_code 15 = .ok (.iaload, 1) := by decide +kernel
theorem d_L_isTakenBack_16 : decode prog_7_method_18_code 16 = .ok (.iconst 2, 1) := by decide +kernel
theorem d_L_isTakenBack_17 : decode prog_7_method_18_code 17 = .ok (.if_icmp .ne 15, 3) := by decide +kernel
theorem d_L_isTakenBack_32 : decode prog_7_method_18_code 32 = .ok (.iinc 2 1, 3) := by decide +kernel
theorem d_L_isTakenBack_35 : decode prog_7_method_18_code 35 = .ok (.goto (-33), 3) := by decide +kernel
theorem d_L_isTakenBack_20 : decode prog_7_method_18_code 20 = .ok (.aload_n 0, 1) := by decide +kernel
theorem d_L_isTakenBack_21 : decode prog_7_method_18_code 21 = .ok (.getfield 24, 3) := by decide +kernel
theorem d_L_isTakenBack_24 : decode prog_7_method_18_code 24 = .ok (.iload_n 2, 1) := by decide +kernel
theorem d_L_isTakenBack_25 : decode prog_7_method_18_code 25 = .ok (.iaload, 1) := by decide +kernel
theorem d_L_isTakenBack_26 : decode prog_7_method_18_code 26 = .ok (.iload_n 1, 1) := by decide +kernel
theorem d_L_isTakenBack_27 : decode prog_7_method_18_code 27 = .ok (.if_icmp .ne 5, 3) := by decide +kernel
theorem d_L_isTakenBack_30 : decode prog_7_method_18_code 30 = .ok (.iconst 1, 1) := by decide +kernel
theorem d_L_isTakenBack_31 : decode prog_7_method_18_code 31 = .ok (.ireturn, 1) := by decide +kernel
theorem d_L_isTakenBack_38 : decode prog_7_method_18_code 38 = .ok (.iconst 0, 1) := by decide +kernel
theorem d_L_isTakenBack_39 : decode prog_7_method_18_code 39 = .ok (.ireturn, 1) := by decide +kernel
theorem d_C_hangs_0 : decode prog_1_method_40_code 0 = .ok (.aload_n 0, 1) := by decide +kernel
theorem d_C_hangs_1 : decode prog_1_method_40_code 1 = .ok (.getfield 38, 3) := by decide +kernel
theorem d_C_hangs_4 : decode prog_1_method_40_code 4 = .ok (.iload_n 1, 1) := by decide +kernel
theorem d_C_hangs_5 : decode prog_1_method_40_code 5 = .ok (.invokevirtual 320, 3) := by decide +kernel
theorem d_C_hangs_8 : decode prog_1_method_40_code 8 = .ok (.ifCond .eq 12, 3) := by decide +kernel
theorem d_C_hangs_20 : decode prog_1_method_40_code 20 = .ok (.iconst (-1), 1) := by decide +kernel
theorem d_C_hangs_21 : decode prog_1_method_40_code 21 = .ok (.ireturn, 1) := by decide +kernel
theorem d_C_hangs_11 : decode prog_1_method_40_code 11 = .ok (.iload_n 2, 1) := by decide +kernel
theorem d_C_hangs_12 : decode prog_1_method_40_code 12 = .ok (.ifCond .lt 8, 3) := by decide +kernel
theorem d_C_hangs_15 : decode prog_1_method_40_code 15 = .ok (.iload_n 2, 1) := by decide +kernel
theorem d_C_hangs_16 : decode prog_1_method_40_code 16 = .ok (.iconst 1, 1) := by decide +kernel
theorem d_C_hangs_17 : decode prog_1_method_40_code 17 = .ok (.if_icmp .le 5, 3) := by decide +kernel
theorem d_C_hangs_22 : decode prog_1_method_40_code 22 = .ok (.aload_n 0, 1) := by decide +kernel
theorem d_C_hangs_23 : decode prog_1_method_40_code 23 = .ok (.getfield 38, 3) := by decide +kernel
theorem d_C_hangs_26 : decode prog_1_method_40_code 26 = .ok (.iload_n 1, 1) := by decide +kernel
theorem d_C_hangs_27 : decode prog_1_method_40_code 27 = .ok (.iload_n 2, 1) := by decide +kernel
theorem d_C_hangs_28 : decode prog_1_method_40_code 28 = .ok (.ifCond .ne 7, 3) := by decide +kernel
theorem d_C_hangs_35 : decode prog_1_method_40_code 35 = .ok (.iconst 0, 1) := by decide +kernel
theorem d_C_hangs_36 : decode prog_1_method_40_code 36 = .ok (.invokevirtual 323, 3) := by decide +kernel
theorem d_C_hangs_39 : decode prog_1_method_40_code 39 = .ok (.ireturn, 1) := by decide +kernel
theorem d_C_hangs_31 : decode prog_1_method_40_code 31 = .ok (.iconst 1, 1) := by decide +kernel
theorem d_C_hangs_32 : decode prog_1_method_40_code 32 = .ok (.goto 4, 3) := by decide +kernel
theorem d_D_allHeld_0 : decode prog_4_method_6_code 0 = .ok (.iconst 0, 1) := by decide +kernel
theorem d_D_allHeld_1 : decode prog_4_method_6_code 1 = .ok (.istore_n 1, 1) := by decide +kernel
theorem d_D_allHeld_2 : decode prog_4_method_6_code 2 = .ok (.iconst 0, 1) := by decide +kernel
theorem d_D_allHeld_3 : decode prog_4_method_6_code 3 = .ok (.istore_n 2, 1) := by decide +kernel
theorem d_D_allHeld_4 : decode prog_4_method_6_code 4 = .ok (.iload_n 2, 1) := by decide +kernel
theorem d_D_allHeld_5 : decode prog_4_method_6_code 5 = .ok (.bipush 6, 2) := by decide +kernel
theorem d_D_allHeld_7 : decode prog_4_method_6_code 7 = .ok (.if_icmp .ge 18, 3) := by decide +kernel
theorem d_D_allHeld_10 : decode prog_4_method_6_code 10 = .ok (.iload_n 1, 1) := by decide +kernel
theorem d_D_allHeld_11 : decode prog_4_method_6_code 11 = .ok (.aload_n 0, 1) := by decide +kernel
theorem d_D_allHeld_12 : decode prog_4_method_6_code 12 = .ok (.getfield 16, 3) := by decide +kernel
theorem d_D_allHeld_15 : decode prog_4_method_6_code 15 = .ok (.iload_n 2, 1) := by decide +kernel
theorem d_D_allHeld_16 : decode prog_4_method_6_code 16 = .ok (.iaload, 1) := by decide +kernel
theorem d_D_allHeld_17 : decode prog_4_method_6_code 17 = .ok (.iadd, 1) := by decide +kernel
theorem d_D_allHeld_18 : decode prog_4_method_6_code 18 = .ok (.istore_n 1, 1) := by decide +kernel
theorem d_D_allHeld_19 : decode prog_4_method_6_code 19 = .ok (.iinc 2 1, 3) := by decide +kernel
theorem d_D_allHeld_22 : decode prog_4_method_6_code 22 = .ok (.goto (-18), 3) := by decide +kernel
theorem d_D_allHeld_25 : decode prog_4_method_6_code 25 = .ok (.iload_n 1, 1) := by decide +kernel
theorem d_D_allHeld_26 : decode prog_4_method_6_code 26 = .ok (.ireturn, 1) := by decide +kernel
theorem d_D_allRead_0 : decode prog_4_method_7_code 0 = .ok (.iconst 0, 1) := by decide +kernel
theorem d_D_allRead_1 : decode prog_4_method_7_code 1 = .ok (.istore_n 1, 1) := by decide +kernel
theorem d_D_allRead_2 : decode prog_4_method_7_code 2 = .ok (.iconst 0, 1) := by decide +kernel
theorem d_D_allRead_3 : decode prog_4_method_7_code 3 = .ok (.istore_n 2, 1) := by decide +kernel
theorem d_D_allRead_4 : decode prog_4_method_7_code 4 = .ok (.iload_n 2, 1) := by decide +kernel
theorem d_D_allRead_5 : decode prog_4_method_7_code 5 = .ok (.bipush 6, 2) := by decide +kernel
theorem d_D_allRead_7 : decode prog_4_method_7_code 7 = .ok (.if_icmp .ge 21, 3) := by decide +kernel
theorem d_D_allRead_10 : decode prog_4_method_7_code 10 = .ok (.iload_n 1, 1) := by decide +kernel
theorem d_D_allRead_11 : decode prog_4_method_7_code 11 = .ok (.aload_n 0, 1) := by decide +kernel
theorem d_D_allRead_12 : decode prog_4_method_7_code 12 = .ok (.getfield 23, 3) := by decide +kernel
theorem d_D_allRead_15 : decode prog_4_method_7_code 15 = .ok (.iload_n 2, 1) := by decide +kernel
theorem d_D_allRead_16 : decode prog_4_method_7_code 16 = .ok (.iaload, 1) := by decide +kernel
theorem d_D_allRead_17 : decode prog_4_method_7_code 17 = .ok (.invokestatic 44, 3) := by decide +kernel
theorem d_D_allRead_20 : decode prog_4_method_7_code 20 = .ok (.iadd, 1) := by decide +kernel
theorem d_D_allRead_21 : decode prog_4_method_7_code 21 = .ok (.istore_n 1, 1) := by decide +kernel
theorem d_D_allRead_22 : decode prog_4_method_7_code 22 = .ok (.iinc 2 1, 3) := by decide +kernel
theorem d_D_allRead_25 : decode prog_4_method_7_code 25 = .ok (.goto (-21), 3) := by decide +kernel
theorem d_D_allRead_28 : decode prog_4_method_7_code 28 = .ok (.iload_n 1, 1) := by decide +kernel
theorem d_D_allRead_29 : decode prog_4_method_7_code 29 = .ok (.ireturn, 1) := by decide +kernel
theorem d_P_howManyUnderWay_0 : decode prog_9_method_10_code 0 = .ok (.iconst 0, 1) := by decide +kernel
theorem d_P_howManyUnderWay_1 : decode prog_9_method_10_code 1 = .ok (.istore_n 1, 1) := by decide +kernel
theorem d_P_howManyUnderWay_2 : decode prog_9_method_10_code 2 = .ok (.iconst 0, 1) := by decide +kernel
theorem d_P_howManyUnderWay_3 : decode prog_9_method_10_code 3 = .ok (.istore_n 2, 1) := by decide +kernel
theorem d_P_howManyUnderWay_4 : decode prog_9_method_10_code 4 = .ok (.iload_n 2, 1) := by decide +kernel
theorem d_P_howManyUnderWay_5 : decode prog_9_method_10_code 5 = .ok (.aload_n 0, 1) := by decide +kernel
theorem d_P_howManyUnderWay_6 : decode prog_9_method_10_code 6 = .ok (.getfield 35, 3) := by decide +kernel
theorem d_P_howManyUnderWay_9 : decode prog_9_method_10_code 9 = .ok (.if_icmp .ge 29, 3) := by decide +kernel
theorem d_P_howManyUnderWay_12 : decode prog_9_method_10_code 12 = .ok (.iload_n 1, 1) := by decide +kernel
theorem d_P_howManyUnderWay_13 : decode prog_9_method_10_code 13 = .ok (.aload_n 0, 1) := by decide +kernel
theorem d_P_howManyUnderWay_14 : decode prog_9_method_10_code 14 = .ok (.getfield 32, 3) := by decide +kernel
theorem d_P_howManyUnderWay_17 : decode prog_9_method_10_code 17 = .ok (.iload_n 2, 1) := by decide +kernel
theorem d_P_howManyUnderWay_18 : decode prog_9_method_10_code 18 = .ok (.iaload, 1) := by decide +kernel
theorem d_P_howManyUnderWay_19 : decode prog_9_method_10_code 19 = .ok (.ifCond .ne 7, 3) := by decide +kernel
theorem d_P_howManyUnderWay_26 : decode prog_9_method_10_code 26 = .ok (.iconst 0, 1) := by decide +kernel
theorem d_P_howManyUnderWay_27 : decode prog_9_method_10_code 27 = .ok (.invokestatic 79, 3) := by decide +kernel
theorem d_P_howManyUnderWay_30 : decode prog_9_method_10_code 30 = .ok (.iadd, 1) := by decide +kernel
theorem d_P_howManyUnderWay_31 : decode prog_9_method_10_code 31 = .ok (.istore_n 1, 1) := by decide +kernel
theorem d_P_howManyUnderWay_32 : decode prog_9_method_10_code 32 = .ok (.iinc 2 1, 3) := by decide +kernel
theorem d_P_howManyUnderWay_35 : decode prog_9_method_10_code 35 = .ok (.goto (-31), 3) := by decide +kernel
theorem d_P_howManyUnderWay_22 : decode prog_9_method_10_code 22 = .ok (.iconst 1, 1) := by decide +kernel
theorem d_P_howManyUnderWay_23 : decode prog_9_method_10_code 23 = .ok (.goto 4, 3) := by decide +kernel
theorem d_P_howManyUnderWay_38 : decode prog_9_method_10_code 38 = .ok (.iload_n 1, 1) := by decide +kernel
theorem d_P_howManyUnderWay_39 : decode prog_9_method_10_code 39 = .ok (.ireturn, 1) := by decide +kernel
theorem d_C_count_0 : decode prog_1_method_41_code 0 = .ok (.iload_n 1, 1) := by decide +kernel
theorem d_C_count_1 : decode prog_1_method_41_code 1 = .ok (.tableswitch 135 0 9 #[55, 60, 68, 76, 84, 92, 100, 111, 119, 127], 55) := by decide +kernel
theorem d_C_count_136 : decode prog_1_method_41_code 136 = .ok (.iconst (-1), 1) := by decide +kernel
theorem d_C_count_137 : decode prog_1_method_41_code 137 = .ok (.ireturn, 1) := by decide +kernel
theorem d_C_count_128 : decode prog_1_method_41_code 128 = .ok (.aload_n 0, 1) := by decide +kernel
theorem d_C_count_129 : decode prog_1_method_41_code 129 = .ok (.getfield 77, 3) := by decide +kernel
theorem d_C_count_132 : decode prog_1_method_41_code 132 = .ok (.getfield 296, 3) := by decide +kernel
theorem d_C_count_135 : decode prog_1_method_41_code 135 = .ok (.ireturn, 1) := by decide +kernel
theorem d_C_count_120 : decode prog_1_method_41_code 120 = .ok (.aload_n 0, 1) := by decide +kernel
theorem d_C_count_121 : decode prog_1_method_41_code 121 = .ok (.getfield 16, 3) := by decide +kernel
theorem d_C_count_124 : decode prog_1_method_41_code 124 = .ok (.getfield 339, 3) := by decide +kernel
theorem d_C_count_127 : decode prog_1_method_41_code 127 = .ok (.ireturn, 1) := by decide +kernel
theorem d_C_count_112 : decode prog_1_method_41_code 112 = .ok (.aload_n 0, 1) := by decide +kernel
theorem d_C_count_113 : decode prog_1_method_41_code 113 = .ok (.getfield 16, 3) := by decide +kernel
theorem d_C_count_116 : decode prog_1_method_41_code 116 = .ok (.getfield 337, 3) := by decide +kernel
theorem d_C_count_119 : decode prog_1_method_41_code 119 = .ok (.ireturn, 1) := by decide +kernel
theorem d_C_count_101 : decode prog_1_method_41_code 101 = .ok (.aload_n 0, 1) := by decide +kernel
theorem d_C_count_102 : decode prog_1_method_41_code 102 = .ok (.getfield 38, 3) := by decide +kernel
theorem d_C_count_105 : decode prog_1_method_41_code 105 = .ok (.getfield 279, 3) := by decide +kernel
theorem d_C_count_108 : decode prog_1_method_41_code 108 = .ok (.invokestatic 282, 3) := by decide +kernel
theorem d_C_count_111 : decode prog_1_method_41_code 111 = .ok (.ireturn, 1) := by decide +kernel
theorem d_C_count_93 : decode prog_1_method_41_code 93 = .ok (.aload_n 0, 1) := by decide +kernel
theorem d_C_count_94 : decode prog_1_method_41_code 94 = .ok (.getfield 52, 3) := by decide +kernel
theorem d_C_count_97 : decode prog_1_method_41_code 97 = .ok (.invokevirtual 334, 3) := by decide +kernel
theorem d_C_count_100 : decode prog_1_method_41_code 100 = .ok (.ireturn, 1) := by decide +kernel
theorem d_C_count_85 : decode prog_1_method_41_code 85 = .ok (.aload_n 0, 1) := by decide +kernel
theorem d_C_count_86 : decode prog_1_method_41_code 86 = .ok (.getfield 52, 3) := by decide +kernel
theorem d_C_count_89 : decode prog_1_method_41_code 89 = .ok (.invokevirtual 331, 3) := by decide +kernel
theorem d_C_count_92 : decode prog_1_method_41_code 92 = .ok (.ireturn, 1) := by decide +kernel
theorem d_C_count_77 : decode prog_1_method_41_code 77 = .ok (.aload_n 0, 1) := by decide +kernel
theorem d_C_count_78 : decode prog_1_method_41_code 78 = .ok (.getfield 45, 3) := by decide +kernel
theorem d_C_count_81 : decode prog_1_method_41_code 81 = .ok (.invokevirtual 328, 3) := by decide +kernel
theorem d_C_count_84 : decode prog_1_method_41_code 84 = .ok (.ireturn, 1) := by decide +kernel
theorem d_C_count_69 : decode prog_1_method_41_code 69 = .ok (.aload_n 0, 1) := by decide +kernel
theorem d_C_count_70 : decode prog_1_method_41_code 70 = .ok (.getfield 45, 3) := by decide +kernel
theorem d_C_count_73 : decode prog_1_method_41_code 73 = .ok (.getfield 327, 3) := by decide +kernel
theorem d_C_count_76 : decode prog_1_method_41_code 76 = .ok (.ireturn, 1) := by decide +kernel
theorem d_C_count_61 : decode prog_1_method_41_code 61 = .ok (.aload_n 0, 1) := by decide +kernel
theorem d_C_count_62 : decode prog_1_method_41_code 62 = .ok (.getfield 38, 3) := by decide +kernel
theorem d_C_count_65 : decode prog_1_method_41_code 65 = .ok (.getfield 259, 3) := by decide +kernel
theorem d_C_count_68 : decode prog_1_method_41_code 68 = .ok (.ireturn, 1) := by decide +kernel
theorem d_C_count_56 : decode prog_1_method_41_code 56 = .ok (.aload_n 0, 1) := by decide +kernel
theorem d_C_count_57 : decode prog_1_method_41_code 57 = .ok (.getfield 139, 3) := by decide +kernel
theorem d_C_count_60 : decode prog_1_method_41_code 60 = .ok (.ireturn, 1) := by decide +kernel
theorem d_M_thrown_0 : decode prog_14_method_2_code 0 = .ok (.aload_n 0, 1) := by decide +kernel
theorem d_M_thrown_1 : decode prog_14_method_2_code 1 = .ok (.getfield 132, 3) := by decide +kernel
theorem d_M_thrown_4 : decode prog_14_method_2_code 4 = .ok (.ireturn, 1) := by decide +kernel
theorem d_M_feed_0 : decode prog_14_method_3_code 0 = .ok (.aload_n 0, 1) := by decide +kernel
theorem d_M_feed_1 : decode prog_14_method_3_code 1 = .ok (.iconst 0, 1) := by decide +kernel
theorem d_M_feed_2 : decode prog_14_method_3_code 2 = .ok (.putfield 132, 3) := by decide +kernel
theorem d_M_feed_5 : decode prog_14_method_3_code 5 = .ok (.aload_n 0, 1) := by decide +kernel
theorem d_M_feed_6 : decode prog_14_method_3_code 6 = .ok (.getfield 135, 3) := by decide +kernel
theorem d_M_feed_9 : decode prog_14_method_3_code 9 = .ok (.sipush 380, 3) := by decide +kernel
theorem d_M_feed_12 : decode prog_14_method_3_code 12 = .ok (.if_icmp .le 5, 3) := by decide +kernel
theorem d_M_feed_17 : decode prog_14_method_3_code 17 = .ok (.iconst 0, 1) := by decide +kernel
theorem d_M_feed_18 : decode prog_14_method_3_code 18 = .ok (.istore 6, 2) := by decide +kernel
theorem d_M_feed_20 : decode prog_14_method_3_code 20 = .ok (.iload 6, 2) := by decide +kernel
theorem d_M_feed_22 : decode prog_14_method_3_code 22 = .ok (.bipush 20, 2) := by decide +kernel
theorem d_M_feed_24 : decode prog_14_method_3_code 24 = .ok (.if_icmp .ge 86, 3) := by decide +kernel
theorem d_M_feed_27 : decode prog_14_method_3_code 27 = .ok (.iload 6, 2) := by decide +kernel
theorem d_M_feed_29 : decode prog_14_method_3_code 29 = .ok (.iconst 4, 1) := by decide +kernel
theorem d_M_feed_30 : decode prog_14_method_3_code 30 = .ok (.if_icmp .ge 7, 3) := by decide +kernel
theorem d_M_feed_37 : decode prog_14_method_3_code 37 = .ok (.iload 6, 2) := by decide +kernel
theorem d_M_feed_39 : decode prog_14_method_3_code 39 = .ok (.bipush 8, 2) := by decide +kernel
theorem d_M_feed_41 : decode prog_14_method_3_code 41 = .ok (.if_icmp .ge 7, 3) := by decide +kernel
theorem d_M_feed_48 : decode prog_14_method_3_code 48 = .ok (.iload 6, 2) := by decide +kernel
theorem d_M_feed_50 : decode prog_14_method_3_code 50 = .ok (.bipush 12, 2) := by decide +kernel
theorem d_M_feed_52 : decode prog_14_method_3_code 52 = .ok (.if_icmp .ge 7, 3) := by decide +kernel
theorem d_M_feed_59 : decode prog_14_method_3_code 59 = .ok (.iload 6, 2) := by decide +kernel
theorem d_M_feed_61 : decode prog_14_method_3_code 61 = .ok (.bipush 16, 2) := by decide +kernel
theorem d_M_feed_63 : decode prog_14_method_3_code 63 = .ok (.if_icmp .ge 8, 3) := by decide +kernel
theorem d_M_feed_71 : decode prog_14_method_3_code 71 = .ok (.iload 5, 2) := by decide +kernel
theorem d_M_feed_73 : decode prog_14_method_3_code 73 = .ok (.istore 7, 2) := by decide +kernel
theorem d_M_feed_75 : decode prog_14_method_3_code 75 = .ok (.aload_n 0, 1) := by decide +kernel
theorem d_M_feed_76 : decode prog_14_method_3_code 76 = .ok (.getfield 7, 3) := by decide +kernel
theorem d_M_feed_79 : decode prog_14_method_3_code 79 = .ok (.aload_n 0, 1) := by decide +kernel
theorem d_M_feed_80 : decode prog_14_method_3_code 80 = .ok (.getfield 135, 3) := by decide +kernel
theorem d_M_feed_83 : decode prog_14_method_3_code 83 = .ok (.iload 6, 2) := by decide +kernel
theorem d_M_feed_85 : decode prog_14_method_3_code 85 = .ok (.iadd, 1) := by decide +kernel
theorem d_M_feed_86 : decode prog_14_method_3_code 86 = .ok (.iload 7, 2) := by decide +kernel
theorem d_M_feed_88 : decode prog_14_method_3_code 88 = .ok (.bipush 24, 2) := by decide +kernel
theorem d_M_feed_90 : decode prog_14_method_3_code 90 = .ok (.bipush 8, 2) := by decide +kernel
theorem d_M_feed_92 : decode prog_14_method_3_code 92 = .ok (.iload 6, 2) := by decide +kernel
theorem d_M_feed_94 : decode prog_14_method_3_code 94 = .ok (.iconst 4, 1) := by decide +kernel
theorem d_M_feed_95 : decode prog_14_method_3_code 95 = .ok (.irem, 1) := by decide +kernel
theorem d_M_feed_96 : decode prog_14_method_3_code 96 = .ok (.imul, 1) := by decide +kernel
theorem d_M_feed_97 : decode prog_14_method_3_code 97 = .ok (.isub, 1) := by decide +kernel
theorem d_M_feed_98 : decode prog_14_method_3_code 98 = .ok (.ishr, 1) := by decide +kernel
theorem d_M_feed_99 : decode prog_14_method_3_code 99 = .ok (.sipush 255, 3) := by decide +kernel
theorem d_M_feed_102 : decode prog_14_method_3_code 102 = .ok (.iand, 1) := by decide +kernel
theorem d_M_feed_103 : decode prog_14_method_3_code 103 = .ok (.iastore, 1) := by decide +kernel
theorem d_M_feed_104 : decode prog_14_method_3_code 104 = .ok (.iinc 6 1, 3) := by decide +kernel
theorem d_M_feed_107 : decode prog_14_method_3_code 107 = .ok (.goto (-87), 3) := by decide +kernel
theorem d_M_feed_66 : decode prog_14_method_3_code 66 = .ok (.iload 4, 2) := by decide +kernel
theorem d_M_feed_68 : decode prog_14_method_3_code 68 = .ok (.goto 5, 3) := by decide +kernel
theorem d_M_feed_55 : decode prog_14_method_3_code 55 = .ok (.iload_n 3, 1) := by decide +kernel
theorem d_M_feed_56 : decode prog_14_method_3_code 56 = .ok (.goto 17, 3) := by decide +kernel
theorem d_M_feed_44 : decode prog_14_method_3_code 44 = .ok (.iload_n 2, 1) := by decide +kernel
theorem d_M_feed_45 : decode prog_14_method_3_code 45 = .ok (.goto 28, 3) := by decide +kernel
theorem d_M_feed_33 : decode prog_14_method_3_code 33 = .ok (.iload_n 1, 1) := by decide +kernel
theorem d_M_feed_34 : decode prog_14_method_3_code 34 = .ok (.goto 39, 3) := by decide +kernel
theorem d_M_feed_110 : decode prog_14_method_3_code 110 = .ok (.aload_n 0, 1) := by decide +kernel
theorem d_M_feed_111 : decode prog_14_method_3_code 111 = .ok (.dup, 1) := by decide +kernel
theorem d_M_feed_112 : decode prog_14_method_3_code 112 = .ok (.getfield 135, 3) := by decide +kernel
theorem d_M_feed_115 : decode prog_14_method_3_code 115 = .ok (.bipush 20, 2) := by decide +kernel
theorem d_M_feed_117 : decode prog_14_method_3_code 117 = .ok (.iadd, 1) := by decide +kernel
theorem d_M_feed_118 : decode prog_14_method_3_code 118 = .ok (.putfield 135, 3) := by decide +kernel
theorem d_M_feed_121 : decode prog_14_method_3_code 121 = .ok (.aload_n 0, 1) := by decide +kernel
theorem d_M_feed_122 : decode prog_14_method_3_code 122 = .ok (.getfield 135, 3) := by decide +kernel
theorem d_M_feed_125 : decode prog_14_method_3_code 125 = .ok (.ireturn, 1) := by decide +kernel
theorem d_M_feed_15 : decode prog_14_method_3_code 15 = .ok (.iconst (-1), 1) := by decide +kernel
theorem d_M_feed_16 : decode prog_14_method_3_code 16 = .ok (.ireturn, 1) := by decide +kernel
theorem d_M_here_0 : decode prog_14_method_4_code 0 = .ok (.aload_n 0, 1) := by decide +kernel
theorem d_M_here_1 : decode prog_14_method_4_code 1 = .ok (.getfield 138, 3) := by decide +kernel
theorem d_M_here_4 : decode prog_14_method_4_code 4 = .ok (.aload_n 0, 1) := by decide +kernel
theorem d_M_here_5 : decode prog_14_method_4_code 5 = .ok (.getfield 141, 3) := by decide +kernel
theorem d_M_here_8 : decode prog_14_method_4_code 8 = .ok (.if_icmp .ge 15, 3) := by decide +kernel
theorem d_M_here_23 : decode prog_14_method_4_code 23 = .ok (.iconst (-1), 1) := by decide +kernel
theorem d_M_here_24 : decode prog_14_method_4_code 24 = .ok (.ireturn, 1) := by decide +kernel
theorem d_M_here_11 : decode prog_14_method_4_code 11 = .ok (.aload_n 0, 1) := by decide +kernel
theorem d_M_here_12 : decode prog_14_method_4_code 12 = .ok (.getfield 7, 3) := by decide +kernel
theorem d_M_here_15 : decode prog_14_method_4_code 15 = .ok (.aload_n 0, 1) := by decide +kernel
theorem d_M_here_16 : decode prog_14_method_4_code 16 = .ok (.getfield 138, 3) := by decide +kernel
theorem d_M_here_19 : decode prog_14_method_4_code 19 = .ok (.iaload, 1) := by decide +kernel
theorem d_M_here_20 : decode prog_14_method_4_code 20 = .ok (.goto 4, 3) := by decide +kernel
theorem d_M_isSmall_0 : decode prog_14_method_5_code 0 = .ok (.iload_n 0, 1) := by decide +kernel
theorem d_M_isSmall_1 : decode prog_14_method_5_code 1 = .ok (.bipush 97, 2) := by decide +kernel
theorem d_M_isSmall_3 : decode prog_14_method_5_code 3 = .ok (.if_icmp .lt 13, 3) := by decide +kernel
theorem d_M_isSmall_16 : decode prog_14_method_5_code 16 = .ok (.iconst 0, 1) := by decide +kernel
theorem d_M_isSmall_17 : decode prog_14_method_5_code 17 = .ok (.ireturn, 1) := by decide +kernel
theorem d_M_isSmall_6 : decode prog_14_method_5_code 6 = .ok (.iload_n 0, 1) := by decide +kernel
theorem d_M_isSmall_7 : decode prog_14_method_5_code 7 = .ok (.bipush 122, 2) := by decide +kernel
theorem d_M_isSmall_9 : decode prog_14_method_5_code 9 = .ok (.if_icmp .gt 7, 3) := by decide +kernel
theorem d_M_isSmall_12 : decode prog_14_method_5_code 12 = .ok (.iconst 1, 1) := by decide +kernel
theorem d_M_isSmall_13 : decode prog_14_method_5_code 13 = .ok (.goto 4, 3) := by decide +kernel
theorem d_M_isDigit_0 : decode prog_14_method_6_code 0 = .ok (.iload_n 0, 1) := by decide +kernel
theorem d_M_isDigit_1 : decode prog_14_method_6_code 1 = .ok (.bipush 48, 2) := by decide +kernel
theorem d_M_isDigit_3 : decode prog_14_method_6_code 3 = .ok (.if_icmp .lt 13, 3) := by decide +kernel
theorem d_M_isDigit_16 : decode prog_14_method_6_code 16 = .ok (.iconst 0, 1) := by decide +kernel
theorem d_M_isDigit_17 : decode prog_14_method_6_code 17 = .ok (.ireturn, 1) := by decide +kernel
theorem d_M_isDigit_6 : decode prog_14_method_6_code 6 = .ok (.iload_n 0, 1) := by decide +kernel
theorem d_M_isDigit_7 : decode prog_14_method_6_code 7 = .ok (.bipush 57, 2) := by decide +kernel
theorem d_M_isDigit_9 : decode prog_14_method_6_code 9 = .ok (.if_icmp .gt 7, 3) := by decide +kernel
theorem d_M_isDigit_12 : decode prog_14_method_6_code 12 = .ok (.iconst 1, 1) := by decide +kernel
theorem d_M_isDigit_13 : decode prog_14_method_6_code 13 = .ok (.goto 4, 3) := by decide +kernel
theorem d_M_word_0 : decode prog_14_method_8_code 0 = .ok (.iconst 0, 1) := by decide +kernel
theorem d_M_word_1 : decode prog_14_method_8_code 1 = .ok (.istore_n 1, 1) := by decide +kernel
theorem d_M_word_2 : decode prog_14_method_8_code 2 = .ok (.iconst 0, 1) := by decide +kernel
theorem d_M_word_3 : decode prog_14_method_8_code 3 = .ok (.istore_n 2, 1) := by decide +kernel
theorem d_M_word_4 : decode prog_14_method_8_code 4 = .ok (.iload_n 2, 1) := by decide +kernel
theorem d_M_word_5 : decode prog_14_method_8_code 5 = .ok (.ldc 167, 2) := by decide +kernel
theorem d_M_word_7 : decode prog_14_method_8_code 7 = .ok (.invokevirtual 169, 3) := by decide +kernel
theorem d_M_word_10 : decode prog_14_method_8_code 10 = .ok (.if_icmp .ge 113, 3) := by decide +kernel
theorem d_M_word_13 : decode prog_14_method_8_code 13 = .ok (.iconst 0, 1) := by decide +kernel
theorem d_M_word_14 : decode prog_14_method_8_code 14 = .ok (.istore_n 3, 1) := by decide +kernel
theorem d_M_word_15 : decode prog_14_method_8_code 15 = .ok (.ldc 167, 2) := by decide +kernel
theorem d_M_word_17 : decode prog_14_method_8_code 17 = .ok (.iload_n 2, 1) := by decide +kernel
theorem d_M_word_18 : decode prog_14_method_8_code 18 = .ok (.iload_n 3, 1) := by decide +kernel
theorem d_M_word_19 : decode prog_14_method_8_code 19 = .ok (.iadd, 1) := by decide +kernel
theorem d_M_word_20 : decode prog_14_method_8_code 20 = .ok (.invokevirtual 174, 3) := by decide +kernel
theorem d_M_word_23 : decode prog_14_method_8_code 23 = .ok (.bipush 32, 2) := by decide +kernel
theorem d_M_word_25 : decode prog_14_method_8_code 25 = .ok (.if_icmp .eq 44, 3) := by decide +kernel
theorem d_M_word_28 : decode prog_14_method_8_code 28 = .ok (.aload_n 0, 1) := by decide +kernel
theorem d_M_word_29 : decode prog_14_method_8_code 29 = .ok (.getfield 148, 3) := by decide +kernel
theorem d_M_word_32 : decode prog_14_method_8_code 32 = .ok (.iload_n 3, 1) := by decide +kernel
theorem d_M_word_33 : decode prog_14_method_8_code 33 = .ok (.iadd, 1) := by decide +kernel
theorem d_M_word_34 : decode prog_14_method_8_code 34 = .ok (.aload_n 0, 1) := by decide +kernel
theorem d_M_word_35 : decode prog_14_method_8_code 35 = .ok (.getfield 138, 3) := by decide +kernel
theorem d_M_word_38 : decode prog_14_method_8_code 38 = .ok (.if_icmp .ge 31, 3) := by decide +kernel
theorem d_M_word_41 : decode prog_14_method_8_code 41 = .ok (.aload_n 0, 1) := by decide +kernel
theorem d_M_word_42 : decode prog_14_method_8_code 42 = .ok (.getfield 7, 3) := by decide +kernel
theorem d_M_word_45 : decode prog_14_method_8_code 45 = .ok (.aload_n 0, 1) := by decide +kernel
theorem d_M_word_46 : decode prog_14_method_8_code 46 = .ok (.getfield 148, 3) := by decide +kernel
theorem d_M_word_49 : decode prog_14_method_8_code 49 = .ok (.iload_n 3, 1) := by decide +kernel
theorem d_M_word_50 : decode prog_14_method_8_code 50 = .ok (.iadd, 1) := by decide +kernel
theorem d_M_word_51 : decode prog_14_method_8_code 51 = .ok (.iaload, 1) := by decide +kernel
theorem d_M_word_52 : decode prog_14_method_8_code 52 = .ok (.ldc 167, 2) := by decide +kernel
theorem d_M_word_54 : decode prog_14_method_8_code 54 = .ok (.iload_n 2, 1) := by decide +kernel
theorem d_M_word_55 : decode prog_14_method_8_code 55 = .ok (.iload_n 3, 1) := by decide +kernel
theorem d_M_word_56 : decode prog_14_method_8_code 56 = .ok (.iadd, 1) := by decide +kernel
theorem d_M_word_57 : decode prog_14_method_8_code 57 = .ok (.invokevirtual 174, 3) := by decide +kernel
theorem d_M_word_60 : decode prog_14_method_8_code 60 = .ok (.if_icmp .ne 9, 3) := by decide +kernel
theorem d_M_word_63 : decode prog_14_method_8_code 63 = .ok (.iinc 3 1, 3) := by decide +kernel
theorem d_M_word_66 : decode prog_14_method_8_code 66 = .ok (.goto (-51), 3) := by decide +kernel
theorem d_M_word_69 : decode prog_14_method_8_code 69 = .ok (.ldc 167, 2) := by decide +kernel
theorem d_M_word_71 : decode prog_14_method_8_code 71 = .ok (.iload_n 2, 1) := by decide +kernel
theorem d_M_word_72 : decode prog_14_method_8_code 72 = .ok (.iload_n 3, 1) := by decide +kernel
theorem d_M_word_73 : decode prog_14_method_8_code 73 = .ok (.iadd, 1) := by decide +kernel
theorem d_M_word_74 : decode prog_14_method_8_code 74 = .ok (.invokevirtual 174, 3) := by decide +kernel
theorem d_M_word_77 : decode prog_14_method_8_code 77 = .ok (.bipush 32, 2) := by decide +kernel
theorem d_M_word_79 : decode prog_14_method_8_code 79 = .ok (.if_icmp .ne 18, 3) := by decide +kernel
theorem d_M_word_97 : decode prog_14_method_8_code 97 = .ok (.ldc 167, 2) := by decide +kernel
theorem d_M_word_99 : decode prog_14_method_8_code 99 = .ok (.iload_n 2, 1) := by decide +kernel
theorem d_M_word_100 : decode prog_14_method_8_code 100 = .ok (.invokevirtual 174, 3) := by decide +kernel
theorem d_M_word_103 : decode prog_14_method_8_code 103 = .ok (.bipush 32, 2) := by decide +kernel
theorem d_M_word_105 : decode prog_14_method_8_code 105 = .ok (.if_icmp .eq 9, 3) := by decide +kernel
theorem d_M_word_108 : decode prog_14_method_8_code 108 = .ok (.iinc 2 1, 3) := by decide +kernel
theorem d_M_word_111 : decode prog_14_method_8_code 111 = .ok (.goto (-14), 3) := by decide +kernel
theorem d_M_word_114 : decode prog_14_method_8_code 114 = .ok (.iinc 2 1, 3) := by decide +kernel
theorem d_M_word_117 : decode prog_14_method_8_code 117 = .ok (.iinc 1 1, 3) := by decide +kernel
theorem d_M_word_120 : decode prog_14_method_8_code 120 = .ok (.goto (-116), 3) := by decide +kernel
theorem d_M_word_82 : decode prog_14_method_8_code 82 = .ok (.aload_n 0, 1) := by decide +kernel
theorem d_M_word_83 : decode prog_14_method_8_code 83 = .ok (.getfield 148, 3) := by decide +kernel
theorem d_M_word_86 : decode prog_14_method_8_code 86 = .ok (.iload_n 3, 1) := by decide +kernel
theorem d_M_word_87 : decode prog_14_method_8_code 87 = .ok (.iadd, 1) := by decide +kernel
theorem d_M_word_88 : decode prog_14_method_8_code 88 = .ok (.aload_n 0, 1) := by decide +kernel
theorem d_M_word_89 : decode prog_14_method_8_code 89 = .ok (.getfield 138, 3) := by decide +kernel
theorem d_M_word_92 : decode prog_14_method_8_code 92 = .ok (.if_icmp .ne 5, 3) := by decide +kernel
theorem d_M_word_95 : decode prog_14_method_8_code 95 = .ok (.iload_n 1, 1) := by decide +kernel
theorem d_M_word_96 : decode prog_14_method_8_code 96 = .ok (.ireturn, 1) := by decide +kernel
theorem d_M_word_123 : decode prog_14_method_8_code 123 = .ok (.iconst (-1), 1) := by decide +kernel
theorem d_M_word_124 : decode prog_14_method_8_code 124 = .ok (.ireturn, 1) := by decide +kernel
theorem d_M_next_0 : decode prog_14_method_7_code 0 = .ok (.aload_n 0, 1) := by decide +kernel
theorem d_M_next_1 : decode prog_14_method_7_code 1 = .ok (.invokevirtual 144, 3) := by decide +kernel
theorem d_M_next_4 : decode prog_14_method_7_code 4 = .ok (.bipush 10, 2) := by decide +kernel
theorem d_M_next_6 : decode prog_14_method_7_code 6 = .ok (.if_icmp .eq 12, 3) := by decide +kernel
theorem d_M_next_18 : decode prog_14_method_7_code 18 = .ok (.aload_n 0, 1) := by decide +kernel
theorem d_M_next_19 : decode prog_14_method_7_code 19 = .ok (.dup, 1) := by decide +kernel
theorem d_M_next_20 : decode prog_14_method_7_code 20 = .ok (.getfield 138, 3) := by decide +kernel
theorem d_M_next_23 : decode prog_14_method_7_code 23 = .ok (.iconst 1, 1) := by decide +kernel
theorem d_M_next_24 : decode prog_14_method_7_code 24 = .ok (.iadd, 1) := by decide +kernel
theorem d_M_next_25 : decode prog_14_method_7_code 25 = .ok (.putfield 138, 3) := by decide +kernel
theorem d_M_next_28 : decode prog_14_method_7_code 28 = .ok (.goto (-28), 3) := by decide +kernel
theorem d_M_next_9 : decode prog_14_method_7_code 9 = .ok (.aload_n 0, 1) := by decide +kernel
theorem d_M_next_10 : decode prog_14_method_7_code 10 = .ok (.invokevirtual 144, 3) := by decide +kernel
theorem d_M_next_13 : decode prog_14_method_7_code 13 = .ok (.bipush 32, 2) := by decide +kernel
theorem d_M_next_15 : decode prog_14_method_7_code 15 = .ok (.if_icmp .ne 16, 3) := by decide +kernel
theorem d_M_next_31 : decode prog_14_method_7_code 31 = .ok (.aload_n 0, 1) := by decide +kernel
theorem d_M_next_32 : decode prog_14_method_7_code 32 = .ok (.aload_n 0, 1) := by decide +kernel
theorem d_M_next_33 : decode prog_14_method_7_code 33 = .ok (.getfield 138, 3) := by decide +kernel
theorem d_M_next_36 : decode prog_14_method_7_code 36 = .ok (.putfield 148, 3) := by decide +kernel
theorem d_M_next_39 : decode prog_14_method_7_code 39 = .ok (.aload_n 0, 1) := by decide +kernel
theorem d_M_next_40 : decode prog_14_method_7_code 40 = .ok (.invokevirtual 144, 3) := by decide +kernel
theorem d_M_next_43 : decode prog_14_method_7_code 43 = .ok (.istore_n 1, 1) := by decide +kernel
theorem d_M_next_44 : decode prog_14_method_7_code 44 = .ok (.iload_n 1, 1) := by decide +kernel
theorem d_M_next_45 : decode prog_14_method_7_code 45 = .ok (.iconst (-1), 1) := by decide +kernel
theorem d_M_next_46 : decode prog_14_method_7_code 46 = .ok (.if_icmp .ne 9, 3) := by decide +kernel
theorem d_M_next_55 : decode prog_14_method_7_code 55 = .ok (.iload_n 1, 1) := by decide +kernel
theorem d_M_next_56 : decode prog_14_method_7_code 56 = .ok (.invokestatic 154, 3) := by decide +kernel
theorem d_M_next_59 : decode prog_14_method_7_code 59 = .ok (.ifCond .eq 52, 3) := by decide +kernel
theorem d_M_next_111 : decode prog_14_method_7_code 111 = .ok (.iload_n 1, 1) := by decide +kernel
theorem d_M_next_112 : decode prog_14_method_7_code 112 = .ok (.invokestatic 164, 3) := by decide +kernel
theorem d_M_next_115 : decode prog_14_method_7_code 115 = .ok (.ifCond .eq 73, 3) := by decide +kernel
theorem d_M_next_188 : decode prog_14_method_7_code 188 = .ok (.aload_n 0, 1) := by decide +kernel
theorem d_M_next_189 : decode prog_14_method_7_code 189 = .ok (.dup, 1) := by decide +kernel
theorem d_M_next_190 : decode prog_14_method_7_code 190 = .ok (.getfield 138, 3) := by decide +kernel
theorem d_M_next_193 : decode prog_14_method_7_code 193 = .ok (.iconst 1, 1) := by decide +kernel
theorem d_M_next_194 : decode prog_14_method_7_code 194 = .ok (.iadd, 1) := by decide +kernel
theorem d_M_next_195 : decode prog_14_method_7_code 195 = .ok (.putfield 138, 3) := by decide +kernel
theorem d_M_next_198 : decode prog_14_method_7_code 198 = .ok (.aload_n 0, 1) := by decide +kernel
theorem d_M_next_199 : decode prog_14_method_7_code 199 = .ok (.iconst 2, 1) := by decide +kernel
theorem d_M_next_200 : decode prog_14_method_7_code 200 = .ok (.putfield 151, 3) := by decide +kernel
theorem d_M_next_203 : decode prog_14_method_7_code 203 = .ok (.aload_n 0, 1) := by decide +kernel
theorem d_M_next_204 : decode prog_14_method_7_code 204 = .ok (.iload_n 1, 1) := by decide +kernel
theorem d_M_next_205 : decode prog_14_method_7_code 205 = .ok (.putfield 161, 3) := by decide +kernel
theorem d_M_next_208 : decode prog_14_method_7_code 208 = .ok (.iload_n 1, 1) := by decide +kernel
theorem d_M_next_209 : decode prog_14_method_7_code 209 = .ok (.bipush 60, 2) := by decide +kernel
theorem d_M_next_211 : decode prog_14_method_7_code 211 = .ok (.if_icmp .ne 22, 3) := by decide +kernel
theorem d_M_next_233 : decode prog_14_method_7_code 233 = .ok (.iload_n 1, 1) := by decide +kernel
theorem d_M_next_234 : decode prog_14_method_7_code 234 = .ok (.bipush 60, 2) := by decide +kernel
theorem d_M_next_236 : decode prog_14_method_7_code 236 = .ok (.if_icmp .ne 22, 3) := by decide +kernel
theorem d_M_next_258 : decode prog_14_method_7_code 258 = .ok (.iload_n 1, 1) := by decide +kernel
theorem d_M_next_259 : decode prog_14_method_7_code 259 = .ok (.bipush 62, 2) := by decide +kernel
theorem d_M_next_261 : decode prog_14_method_7_code 261 = .ok (.if_icmp .ne 19, 3) := by decide +kernel
theorem d_M_next_280 : decode prog_14_method_7_code 280 = .ok (.aload_n 0, 1) := by decide +kernel
theorem d_M_next_281 : decode prog_14_method_7_code 281 = .ok (.getfield 161, 3) := by decide +kernel
theorem d_M_next_284 : decode prog_14_method_7_code 284 = .ok (.iload_n 1, 1) := by decide +kernel
theorem d_M_next_285 : decode prog_14_method_7_code 285 = .ok (.if_icmp .eq 16, 3) := by decide +kernel
theorem d_M_next_301 : decode prog_14_method_7_code 301 = .ok (.iload_n 1, 1) := by decide +kernel
theorem d_M_next_302 : decode prog_14_method_7_code 302 = .ok (.bipush 59, 2) := by decide +kernel
theorem d_M_next_304 : decode prog_14_method_7_code 304 = .ok (.if_icmp .eq 50, 3) := by decide +kernel
theorem d_M_next_354 : decode prog_14_method_7_code 354 = .ok (.return_, 1) := by decide +kernel
theorem d_M_next_307 : decode prog_14_method_7_code 307 = .ok (.iload_n 1, 1) := by decide +kernel
theorem d_M_next_308 : decode prog_14_method_7_code 308 = .ok (.bipush 45, 2) := by decide +kernel
theorem d_M_next_310 : decode prog_14_method_7_code 310 = .ok (.if_icmp .eq 44, 3) := by decide +kernel
theorem d_M_next_313 : decode prog_14_method_7_code 313 = .ok (.iload_n 1, 1) := by decide +kernel
theorem d_M_next_314 : decode prog_14_method_7_code 314 = .ok (.bipush 43, 2) := by decide +kernel
theorem d_M_next_316 : decode prog_14_method_7_code 316 = .ok (.if_icmp .eq 38, 3) := by decide +kernel
theorem d_M_next_319 : decode prog_14_method_7_code 319 = .ok (.iload_n 1, 1) := by decide +kernel
theorem d_M_next_320 : decode prog_14_method_7_code 320 = .ok (.bipush 40, 2) := by decide +kernel
theorem d_M_next_322 : decode prog_14_method_7_code 322 = .ok (.if_icmp .eq 32, 3) := by decide +kernel
theorem d_M_next_325 : decode prog_14_method_7_code 325 = .ok (.iload_n 1, 1) := by decide +kernel
theorem d_M_next_326 : decode prog_14_method_7_code 326 = .ok (.bipush 41, 2) := by decide +kernel
theorem d_M_next_328 : decode prog_14_method_7_code 328 = .ok (.if_icmp .eq 26, 3) := by decide +kernel
theorem d_M_next_331 : decode prog_14_method_7_code 331 = .ok (.iload_n 1, 1) := by decide +kernel
theorem d_M_next_332 : decode prog_14_method_7_code 332 = .ok (.bipush 60, 2) := by decide +kernel
theorem d_M_next_334 : decode prog_14_method_7_code 334 = .ok (.if_icmp .eq 20, 3) := by decide +kernel
theorem d_M_next_337 : decode prog_14_method_7_code 337 = .ok (.iload_n 1, 1) := by decide +kernel
theorem d_M_next_338 : decode prog_14_method_7_code 338 = .ok (.bipush 61, 2) := by decide +kernel
theorem d_M_next_340 : decode prog_14_method_7_code 340 = .ok (.if_icmp .eq 14, 3) := by decide +kernel
theorem d_M_next_343 : decode prog_14_method_7_code 343 = .ok (.iload_n 1, 1) := by decide +kernel
theorem d_M_next_344 : decode prog_14_method_7_code 344 = .ok (.bipush 62, 2) := by decide +kernel
theorem d_M_next_346 : decode prog_14_method_7_code 346 = .ok (.if_icmp .eq 8, 3) := by decide +kernel
theorem d_M_next_349 : decode prog_14_method_7_code 349 = .ok (.aload_n 0, 1) := by decide +kernel
theorem d_M_next_350 : decode prog_14_method_7_code 350 = .ok (.iconst 4, 1) := by decide +kernel
theorem d_M_next_351 : decode prog_14_method_7_code 351 = .ok (.putfield 151, 3) := by decide +kernel
theorem d_M_next_288 : decode prog_14_method_7_code 288 = .ok (.aload_n 0, 1) := by decide +kernel
theorem d_M_next_289 : decode prog_14_method_7_code 289 = .ok (.dup, 1) := by decide +kernel
theorem d_M_next_290 : decode prog_14_method_7_code 290 = .ok (.getfield 138, 3) := by decide +kernel
theorem d_M_next_293 : decode prog_14_method_7_code 293 = .ok (.iconst 1, 1) := by decide +kernel
theorem d_M_next_294 : decode prog_14_method_7_code 294 = .ok (.iadd, 1) := by decide +kernel
theorem d_M_next_295 : decode prog_14_method_7_code 295 = .ok (.putfield 138, 3) := by decide +kernel
theorem d_M_next_298 : decode prog_14_method_7_code 298 = .ok (.goto 56, 3) := by decide +kernel
theorem d_M_next_264 : decode prog_14_method_7_code 264 = .ok (.aload_n 0, 1) := by decide +kernel
theorem d_M_next_265 : decode prog_14_method_7_code 265 = .ok (.invokevirtual 144, 3) := by decide +kernel
theorem d_M_next_268 : decode prog_14_method_7_code 268 = .ok (.bipush 61, 2) := by decide +kernel
theorem d_M_next_270 : decode prog_14_method_7_code 270 = .ok (.if_icmp .ne 10, 3) := by decide +kernel
theorem d_M_next_273 : decode prog_14_method_7_code 273 = .ok (.aload_n 0, 1) := by decide +kernel
theorem d_M_next_274 : decode prog_14_method_7_code 274 = .ok (.sipush 258, 3) := by decide +kernel
theorem d_M_next_277 : decode prog_14_method_7_code 277 = .ok (.putfield 161, 3) := by decide +kernel
theorem d_M_next_239 : decode prog_14_method_7_code 239 = .ok (.aload_n 0, 1) := by decide +kernel
theorem d_M_next_240 : decode prog_14_method_7_code 240 = .ok (.invokevirtual 144, 3) := by decide +kernel
theorem d_M_next_243 : decode prog_14_method_7_code 243 = .ok (.bipush 62, 2) := by decide +kernel
theorem d_M_next_245 : decode prog_14_method_7_code 245 = .ok (.if_icmp .ne 13, 3) := by decide +kernel
theorem d_M_next_248 : decode prog_14_method_7_code 248 = .ok (.aload_n 0, 1) := by decide +kernel
theorem d_M_next_249 : decode prog_14_method_7_code 249 = .ok (.sipush 257, 3) := by decide +kernel
theorem d_M_next_252 : decode prog_14_method_7_code 252 = .ok (.putfield 161, 3) := by decide +kernel
theorem d_M_next_255 : decode prog_14_method_7_code 255 = .ok (.goto 25, 3) := by decide +kernel
theorem d_M_next_214 : decode prog_14_method_7_code 214 = .ok (.aload_n 0, 1) := by decide +kernel
theorem d_M_next_215 : decode prog_14_method_7_code 215 = .ok (.invokevirtual 144, 3) := by decide +kernel
theorem d_M_next_218 : decode prog_14_method_7_code 218 = .ok (.bipush 61, 2) := by decide +kernel
theorem d_M_next_220 : decode prog_14_method_7_code 220 = .ok (.if_icmp .ne 13, 3) := by decide +kernel
theorem d_M_next_223 : decode prog_14_method_7_code 223 = .ok (.aload_n 0, 1) := by decide +kernel
theorem d_M_next_224 : decode prog_14_method_7_code 224 = .ok (.sipush 256, 3) := by decide +kernel
theorem d_M_next_227 : decode prog_14_method_7_code 227 = .ok (.putfield 161, 3) := by decide +kernel
theorem d_M_next_230 : decode prog_14_method_7_code 230 = .ok (.goto 50, 3) := by decide +kernel
theorem d_M_next_118 : decode prog_14_method_7_code 118 = .ok (.aload_n 0, 1) := by decide +kernel
theorem d_M_next_119 : decode prog_14_method_7_code 119 = .ok (.iconst 1, 1) := by decide +kernel
theorem d_M_next_120 : decode prog_14_method_7_code 120 = .ok (.putfield 151, 3) := by decide +kernel
theorem d_M_next_123 : decode prog_14_method_7_code 123 = .ok (.aload_n 0, 1) := by decide +kernel
theorem d_M_next_124 : decode prog_14_method_7_code 124 = .ok (.iconst 0, 1) := by decide +kernel
theorem d_M_next_125 : decode prog_14_method_7_code 125 = .ok (.putfield 161, 3) := by decide +kernel
theorem d_M_next_128 : decode prog_14_method_7_code 128 = .ok (.aload_n 0, 1) := by decide +kernel
theorem d_M_next_129 : decode prog_14_method_7_code 129 = .ok (.invokevirtual 144, 3) := by decide +kernel
theorem d_M_next_132 : decode prog_14_method_7_code 132 = .ok (.invokestatic 164, 3) := by decide +kernel
theorem d_M_next_135 : decode prog_14_method_7_code 135 = .ok (.ifCond .eq 52, 3) := by decide +kernel
theorem d_M_next_138 : decode prog_14_method_7_code 138 = .ok (.aload_n 0, 1) := by decide +kernel
theorem d_M_next_139 : decode prog_14_method_7_code 139 = .ok (.aload_n 0, 1) := by decide +kernel
theorem d_M_next_140 : decode prog_14_method_7_code 140 = .ok (.getfield 161, 3) := by decide +kernel
theorem d_M_next_143 : decode prog_14_method_7_code 143 = .ok (.sipush 999, 3) := by decide +kernel
theorem d_M_next_146 : decode prog_14_method_7_code 146 = .ok (.if_icmp .le 10, 3) := by decide +kernel
theorem d_M_next_156 : decode prog_14_method_7_code 156 = .ok (.bipush 10, 2) := by decide +kernel
theorem d_M_next_158 : decode prog_14_method_7_code 158 = .ok (.aload_n 0, 1) := by decide +kernel
theorem d_M_next_159 : decode prog_14_method_7_code 159 = .ok (.getfield 161, 3) := by decide +kernel
theorem d_M_next_162 : decode prog_14_method_7_code 162 = .ok (.imul, 1) := by decide +kernel
theorem d_M_next_163 : decode prog_14_method_7_code 163 = .ok (.aload_n 0, 1) := by decide +kernel
theorem d_M_next_164 : decode prog_14_method_7_code 164 = .ok (.invokevirtual 144, 3) := by decide +kernel
theorem d_M_next_167 : decode prog_14_method_7_code 167 = .ok (.iadd, 1) := by decide +kernel
theorem d_M_next_168 : decode prog_14_method_7_code 168 = .ok (.bipush 48, 2) := by decide +kernel
theorem d_M_next_170 : decode prog_14_method_7_code 170 = .ok (.isub, 1) := by decide +kernel
theorem d_M_next_171 : decode prog_14_method_7_code 171 = .ok (.putfield 161, 3) := by decide +kernel
theorem d_M_next_174 : decode prog_14_method_7_code 174 = .ok (.aload_n 0, 1) := by decide +kernel
theorem d_M_next_175 : decode prog_14_method_7_code 175 = .ok (.dup, 1) := by decide +kernel
theorem d_M_next_176 : decode prog_14_method_7_code 176 = .ok (.getfield 138, 3) := by decide +kernel
theorem d_M_next_179 : decode prog_14_method_7_code 179 = .ok (.iconst 1, 1) := by decide +kernel
theorem d_M_next_180 : decode prog_14_method_7_code 180 = .ok (.iadd, 1) := by decide +kernel
theorem d_M_next_181 : decode prog_14_method_7_code 181 = .ok (.putfield 138, 3) := by decide +kernel
theorem d_M_next_184 : decode prog_14_method_7_code 184 = .ok (.goto (-56), 3) := by decide +kernel
theorem d_M_next_149 : decode prog_14_method_7_code 149 = .ok (.aload_n 0, 1) := by decide +kernel
theorem d_M_next_150 : decode prog_14_method_7_code 150 = .ok (.getfield 161, 3) := by decide +kernel
theorem d_M_next_153 : decode prog_14_method_7_code 153 = .ok (.goto 18, 3) := by decide +kernel
theorem d_M_next_187 : decode prog_14_method_7_code 187 = .ok (.return_, 1) := by decide +kernel
theorem d_M_next_62 : decode prog_14_method_7_code 62 = .ok (.aload_n 0, 1) := by decide +kernel
theorem d_M_next_63 : decode prog_14_method_7_code 63 = .ok (.invokevirtual 144, 3) := by decide +kernel
theorem d_M_next_66 : decode prog_14_method_7_code 66 = .ok (.invokestatic 154, 3) := by decide +kernel
theorem d_M_next_69 : decode prog_14_method_7_code 69 = .ok (.ifCond .eq 16, 3) := by decide +kernel
theorem d_M_next_72 : decode prog_14_method_7_code 72 = .ok (.aload_n 0, 1) := by decide +kernel
theorem d_M_next_73 : decode prog_14_method_7_code 73 = .ok (.dup, 1) := by decide +kernel
theorem d_M_next_74 : decode prog_14_method_7_code 74 = .ok (.getfield 138, 3) := by decide +kernel
theorem d_M_next_77 : decode prog_14_method_7_code 77 = .ok (.iconst 1, 1) := by decide +kernel
theorem d_M_next_78 : decode prog_14_method_7_code 78 = .ok (.iadd, 1) := by decide +kernel
theorem d_M_next_79 : decode prog_14_method_7_code 79 = .ok (.putfield 138, 3) := by decide +kernel
theorem d_M_next_82 : decode prog_14_method_7_code 82 = .ok (.goto (-20), 3) := by decide +kernel
theorem d_M_next_85 : decode prog_14_method_7_code 85 = .ok (.aload_n 0, 1) := by decide +kernel
theorem d_M_next_86 : decode prog_14_method_7_code 86 = .ok (.aload_n 0, 1) := by decide +kernel
theorem d_M_next_87 : decode prog_14_method_7_code 87 = .ok (.invokevirtual 158, 3) := by decide +kernel
theorem d_M_next_90 : decode prog_14_method_7_code 90 = .ok (.putfield 161, 3) := by decide +kernel
theorem d_M_next_93 : decode prog_14_method_7_code 93 = .ok (.aload_n 0, 1) := by decide +kernel
theorem d_M_next_94 : decode prog_14_method_7_code 94 = .ok (.aload_n 0, 1) := by decide +kernel
theorem d_M_next_95 : decode prog_14_method_7_code 95 = .ok (.getfield 161, 3) := by decide +kernel
theorem d_M_next_98 : decode prog_14_method_7_code 98 = .ok (.iconst (-1), 1) := by decide +kernel
theorem d_M_next_99 : decode prog_14_method_7_code 99 = .ok (.if_icmp .ne 7, 3) := by decide +kernel
theorem d_M_next_106 : decode prog_14_method_7_code 106 = .ok (.iconst 0, 1) := by decide +kernel
theorem d_M_next_107 : decode prog_14_method_7_code 107 = .ok (.putfield 151, 3) := by decide +kernel
theorem d_M_next_110 : decode prog_14_method_7_code 110 = .ok (.return_, 1) := by decide +kernel
theorem d_M_next_102 : decode prog_14_method_7_code 102 = .ok (.iconst 4, 1) := by decide +kernel
theorem d_M_next_103 : decode prog_14_method_7_code 103 = .ok (.goto 4, 3) := by decide +kernel
theorem d_M_next_49 : decode prog_14_method_7_code 49 = .ok (.aload_n 0, 1) := by decide +kernel
theorem d_M_next_50 : decode prog_14_method_7_code 50 = .ok (.iconst 3, 1) := by decide +kernel
theorem d_M_next_51 : decode prog_14_method_7_code 51 = .ok (.putfield 151, 3) := by decide +kernel
theorem d_M_next_54 : decode prog_14_method_7_code 54 = .ok (.return_, 1) := by decide +kernel
theorem d_M_wrong_0 : decode prog_14_method_9_code 0 = .ok (.aload_n 0, 1) := by decide +kernel
theorem d_M_wrong_1 : decode prog_14_method_9_code 1 = .ok (.getfield 178, 3) := by decide +kernel
theorem d_M_wrong_4 : decode prog_14_method_9_code 4 = .ok (.ifCond .eq 4, 3) := by decide +kernel
theorem d_M_wrong_8 : decode prog_14_method_9_code 8 = .ok (.aload_n 0, 1) := by decide +kernel
theorem d_M_wrong_9 : decode prog_14_method_9_code 9 = .ok (.iload_n 1, 1) := by decide +kernel
theorem d_M_wrong_10 : decode prog_14_method_9_code 10 = .ok (.putfield 178, 3) := by decide +kernel
theorem d_M_wrong_13 : decode prog_14_method_9_code 13 = .ok (.aload_n 0, 1) := by decide +kernel
theorem d_M_wrong_14 : decode prog_14_method_9_code 14 = .ok (.aload_n 0, 1) := by decide +kernel
theorem d_M_wrong_15 : decode prog_14_method_9_code 15 = .ok (.getfield 148, 3) := by decide +kernel
theorem d_M_wrong_18 : decode prog_14_method_9_code 18 = .ok (.putfield 181, 3) := by decide +kernel
theorem d_M_wrong_21 : decode prog_14_method_9_code 21 = .ok (.return_, 1) := by decide +kernel
theorem d_M_wrong_7 : decode prog_14_method_9_code 7 = .ok (.return_, 1) := by decide +kernel
theorem d_M_isSign_0 : decode prog_14_method_10_code 0 = .ok (.aload_n 0, 1) := by decide +kernel
theorem d_M_isSign_1 : decode prog_14_method_10_code 1 = .ok (.getfield 151, 3) := by decide +kernel
theorem d_M_isSign_4 : decode prog_14_method_10_code 4 = .ok (.iconst 2, 1) := by decide +kernel
theorem d_M_isSign_5 : decode prog_14_method_10_code 5 = .ok (.if_icmp .ne 15, 3) := by decide +kernel
theorem d_M_isSign_20 : decode prog_14_method_10_code 20 = .ok (.iconst 0, 1) := by decide +kernel
theorem d_M_isSign_21 : decode prog_14_method_10_code 21 = .ok (.ireturn, 1) := by decide +kernel
theorem d_M_isSign_8 : decode prog_14_method_10_code 8 = .ok (.aload_n 0, 1) := by decide +kernel
theorem d_M_isSign_9 : decode prog_14_method_10_code 9 = .ok (.getfield 161, 3) := by decide +kernel
theorem d_M_isSign_12 : decode prog_14_method_10_code 12 = .ok (.iload_n 1, 1) := by decide +kernel
theorem d_M_isSign_13 : decode prog_14_method_10_code 13 = .ok (.if_icmp .ne 7, 3) := by decide +kernel
theorem d_M_isSign_16 : decode prog_14_method_10_code 16 = .ok (.iconst 1, 1) := by decide +kernel
theorem d_M_isSign_17 : decode prog_14_method_10_code 17 = .ok (.goto 4, 3) := by decide +kernel
theorem d_M_writers_0 : decode prog_14_method_11_code 0 = .ok (.iconst 0, 1) := by decide +kernel
theorem d_M_writers_1 : decode prog_14_method_11_code 1 = .ok (.istore_n 2, 1) := by decide +kernel
theorem d_M_writers_2 : decode prog_14_method_11_code 2 = .ok (.aload_n 0, 1) := by decide +kernel
theorem d_M_writers_3 : decode prog_14_method_11_code 3 = .ok (.getfield 178, 3) := by decide +kernel
theorem d_M_writers_6 : decode prog_14_method_11_code 6 = .ok (.ifCond .ne 82, 3) := by decide +kernel
theorem d_M_writers_9 : decode prog_14_method_11_code 9 = .ok (.aload_n 0, 1) := by decide +kernel
theorem d_M_writers_10 : decode prog_14_method_11_code 10 = .ok (.getfield 151, 3) := by decide +kernel
theorem d_M_writers_13 : decode prog_14_method_11_code 13 = .ok (.iconst 1, 1) := by decide +kernel
theorem d_M_writers_14 : decode prog_14_method_11_code 14 = .ok (.if_icmp .ne 74, 3) := by decide +kernel
theorem d_M_writers_17 : decode prog_14_method_11_code 17 = .ok (.aload_n 0, 1) := by decide +kernel
theorem d_M_writers_18 : decode prog_14_method_11_code 18 = .ok (.getfield 161, 3) := by decide +kernel
theorem d_M_writers_21 : decode prog_14_method_11_code 21 = .ok (.bipush 6, 2) := by decide +kernel
theorem d_M_writers_23 : decode prog_14_method_11_code 23 = .ok (.if_icmp .lt 11, 3) := by decide +kernel
theorem d_M_writers_34 : decode prog_14_method_11_code 34 = .ok (.iload_n 1, 1) := by decide +kernel
theorem d_M_writers_35 : decode prog_14_method_11_code 35 = .ok (.aload_n 0, 1) := by decide +kernel
theorem d_M_writers_36 : decode prog_14_method_11_code 36 = .ok (.getfield 161, 3) := by decide +kernel
theorem d_M_writers_39 : decode prog_14_method_11_code 39 = .ok (.ishr, 1) := by decide +kernel
theorem d_M_writers_40 : decode prog_14_method_11_code 40 = .ok (.iconst 1, 1) := by decide +kernel
theorem d_M_writers_41 : decode prog_14_method_11_code 41 = .ok (.iand, 1) := by decide +kernel
theorem d_M_writers_42 : decode prog_14_method_11_code 42 = .ok (.iconst 1, 1) := by decide +kernel
theorem d_M_writers_43 : decode prog_14_method_11_code 43 = .ok (.if_icmp .eq 15, 3) := by decide +kernel
theorem d_M_writers_58 : decode prog_14_method_11_code 58 = .ok (.aload_n 0, 1) := by decide +kernel
theorem d_M_writers_59 : decode prog_14_method_11_code 59 = .ok (.iconst 3, 1) := by decide +kernel
theorem d_M_writers_60 : decode prog_14_method_11_code 60 = .ok (.invokevirtual 184, 3) := by decide +kernel
theorem d_M_writers_63 : decode prog_14_method_11_code 63 = .ok (.aload_n 0, 1) := by decide +kernel
theorem d_M_writers_64 : decode prog_14_method_11_code 64 = .ok (.getfield 178, 3) := by decide +kernel
theorem d_M_writers_67 : decode prog_14_method_11_code 67 = .ok (.ifCond .eq 5, 3) := by decide +kernel
theorem d_M_writers_72 : decode prog_14_method_11_code 72 = .ok (.iload_n 2, 1) := by decide +kernel
theorem d_M_writers_73 : decode prog_14_method_11_code 73 = .ok (.iconst 1, 1) := by decide +kernel
theorem d_M_writers_74 : decode prog_14_method_11_code 74 = .ok (.aload_n 0, 1) := by decide +kernel
theorem d_M_writers_75 : decode prog_14_method_11_code 75 = .ok (.getfield 161, 3) := by decide +kernel
theorem d_M_writers_78 : decode prog_14_method_11_code 78 = .ok (.ishl, 1) := by decide +kernel
theorem d_M_writers_79 : decode prog_14_method_11_code 79 = .ok (.ior, 1) := by decide +kernel
theorem d_M_writers_80 : decode prog_14_method_11_code 80 = .ok (.istore_n 2, 1) := by decide +kernel
theorem d_M_writers_81 : decode prog_14_method_11_code 81 = .ok (.aload_n 0, 1) := by decide +kernel
theorem d_M_writers_82 : decode prog_14_method_11_code 82 = .ok (.invokevirtual 188, 3) := by decide +kernel
theorem d_M_writers_85 : decode prog_14_method_11_code 85 = .ok (.goto (-83), 3) := by decide +kernel
theorem d_M_writers_46 : decode prog_14_method_11_code 46 = .ok (.iload_n 2, 1) := by decide +kernel
theorem d_M_writers_47 : decode prog_14_method_11_code 47 = .ok (.aload_n 0, 1) := by decide +kernel
theorem d_M_writers_48 : decode prog_14_method_11_code 48 = .ok (.getfield 161, 3) := by decide +kernel
theorem d_M_writers_51 : decode prog_14_method_11_code 51 = .ok (.ishr, 1) := by decide +kernel
theorem d_M_writers_52 : decode prog_14_method_11_code 52 = .ok (.iconst 1, 1) := by decide +kernel
theorem d_M_writers_53 : decode prog_14_method_11_code 53 = .ok (.iand, 1) := by decide +kernel
theorem d_M_writers_54 : decode prog_14_method_11_code 54 = .ok (.iconst 1, 1) := by decide +kernel
theorem d_M_writers_55 : decode prog_14_method_11_code 55 = .ok (.if_icmp .ne 8, 3) := by decide +kernel
theorem d_M_writers_26 : decode prog_14_method_11_code 26 = .ok (.aload_n 0, 1) := by decide +kernel
theorem d_M_writers_27 : decode prog_14_method_11_code 27 = .ok (.iconst 2, 1) := by decide +kernel
theorem d_M_writers_28 : decode prog_14_method_11_code 28 = .ok (.invokevirtual 184, 3) := by decide +kernel
theorem d_M_writers_31 : decode prog_14_method_11_code 31 = .ok (.goto 32, 3) := by decide +kernel
theorem d_M_writers_70 : decode prog_14_method_11_code 70 = .ok (.iconst 0, 1) := by decide +kernel
theorem d_M_writers_71 : decode prog_14_method_11_code 71 = .ok (.ireturn, 1) := by decide +kernel
theorem d_M_writers_88 : decode prog_14_method_11_code 88 = .ok (.iload_n 2, 1) := by decide +kernel
theorem d_M_writers_89 : decode prog_14_method_11_code 89 = .ok (.ireturn, 1) := by decide +kernel
theorem d_M_bind_0 : decode prog_14_method_15_code 0 = .ok (.iload_n 0, 1) := by decide +kernel
theorem d_M_bind_1 : decode prog_14_method_15_code 1 = .ok (.lookupswitch 109 #[(43, 107), (45, 107), (60, 105), (61, 105), (62, 105), (256, 105), (257, 105), (258, 105), (260, 103), (261, 101), (262, 99)], 99) := by decide +kernel
theorem d_M_bind_110 : decode prog_14_method_15_code 110 = .ok (.iconst 0, 1) := by decide +kernel
theorem d_M_bind_111 : decode prog_14_method_15_code 111 = .ok (.ireturn, 1) := by decide +kernel
theorem d_M_bind_100 : decode prog_14_method_15_code 100 = .ok (.iconst 1, 1) := by decide +kernel
theorem d_M_bind_101 : decode prog_14_method_15_code 101 = .ok (.ireturn, 1) := by decide +kernel
theorem d_M_bind_102 : decode prog_14_method_15_code 102 = .ok (.iconst 2, 1) := by decide +kernel
theorem d_M_bind_103 : decode prog_14_method_15_code 103 = .ok (.ireturn, 1) := by decide +kernel
theorem d_M_bind_104 : decode prog_14_method_15_code 104 = .ok (.iconst 3, 1) := by decide +kernel
theorem d_M_bind_105 : decode prog_14_method_15_code 105 = .ok (.ireturn, 1) := by decide +kernel
theorem d_M_bind_106 : decode prog_14_method_15_code 106 = .ok (.iconst 4, 1) := by decide +kernel
theorem d_M_bind_107 : decode prog_14_method_15_code 107 = .ok (.ireturn, 1) := by decide +kernel
theorem d_M_bind_108 : decode prog_14_method_15_code 108 = .ok (.iconst 5, 1) := by decide +kernel
theorem d_M_bind_109 : decode prog_14_method_15_code 109 = .ok (.ireturn, 1) := by decide +kernel
theorem d_M_between_0 : decode prog_14_method_20_code 0 = .ok (.aload_n 0, 1) := by decide +kernel
theorem d_M_between_1 : decode prog_14_method_20_code 1 = .ok (.getfield 151, 3) := by decide +kernel
theorem d_M_between_4 : decode prog_14_method_20_code 4 = .ok (.ifCond .ne 35, 3) := by decide +kernel
theorem d_M_between_39 : decode prog_14_method_20_code 39 = .ok (.aload_n 0, 1) := by decide +kernel
theorem d_M_between_40 : decode prog_14_method_20_code 40 = .ok (.getfield 151, 3) := by decide +kernel
theorem d_M_between_43 : decode prog_14_method_20_code 43 = .ok (.iconst 2, 1) := by decide +kernel
theorem d_M_between_44 : decode prog_14_method_20_code 44 = .ok (.if_icmp .ne 38, 3) := by decide +kernel
theorem d_M_between_82 : decode prog_14_method_20_code 82 = .ok (.iconst 0, 1) := by decide +kernel
theorem d_M_between_83 : decode prog_14_method_20_code 83 = .ok (.ireturn, 1) := by decide +kernel
theorem d_M_between_47 : decode prog_14_method_20_code 47 = .ok (.aload_n 0, 1) := by decide +kernel
theorem d_M_between_48 : decode prog_14_method_20_code 48 = .ok (.getfield 161, 3) := by decide +kernel
theorem d_M_between_51 : decode prog_14_method_20_code 51 = .ok (.bipush 40, 2) := by decide +kernel
theorem d_M_between_53 : decode prog_14_method_20_code 53 = .ok (.if_icmp .eq 29, 3) := by decide +kernel
theorem d_M_between_56 : decode prog_14_method_20_code 56 = .ok (.aload_n 0, 1) := by decide +kernel
theorem d_M_between_57 : decode prog_14_method_20_code 57 = .ok (.getfield 161, 3) := by decide +kernel
theorem d_M_between_60 : decode prog_14_method_20_code 60 = .ok (.bipush 41, 2) := by decide +kernel
theorem d_M_between_62 : decode prog_14_method_20_code 62 = .ok (.if_icmp .eq 20, 3) := by decide +kernel
theorem d_M_between_65 : decode prog_14_method_20_code 65 = .ok (.aload_n 0, 1) := by decide +kernel
theorem d_M_between_66 : decode prog_14_method_20_code 66 = .ok (.getfield 161, 3) := by decide +kernel
theorem d_M_between_69 : decode prog_14_method_20_code 69 = .ok (.invokestatic 226, 3) := by decide +kernel
theorem d_M_between_72 : decode prog_14_method_20_code 72 = .ok (.ifCond .le 10, 3) := by decide +kernel
theorem d_M_between_75 : decode prog_14_method_20_code 75 = .ok (.aload_n 0, 1) := by decide +kernel
theorem d_M_between_76 : decode prog_14_method_20_code 76 = .ok (.getfield 161, 3) := by decide +kernel
theorem d_M_between_79 : decode prog_14_method_20_code 79 = .ok (.goto 4, 3) := by decide +kernel
theorem d_M_between_7 : decode prog_14_method_20_code 7 = .ok (.aload_n 0, 1) := by decide +kernel
theorem d_M_between_8 : decode prog_14_method_20_code 8 = .ok (.getfield 161, 3) := by decide +kernel
theorem d_M_between_11 : decode prog_14_method_20_code 11 = .ok (.bipush 9, 2) := by decide +kernel
theorem d_M_between_13 : decode prog_14_method_20_code 13 = .ok (.if_icmp .ne 9, 3) := by decide +kernel
theorem d_M_between_22 : decode prog_14_method_20_code 22 = .ok (.aload_n 0, 1) := by decide +kernel
theorem d_M_between_23 : decode prog_14_method_20_code 23 = .ok (.getfield 161, 3) := by decide +kernel
theorem d_M_between_26 : decode prog_14_method_20_code 26 = .ok (.bipush 10, 2) := by decide +kernel
theorem d_M_between_28 : decode prog_14_method_20_code 28 = .ok (.if_icmp .ne 9, 3) := by decide +kernel
theorem d_M_between_37 : decode prog_14_method_20_code 37 = .ok (.iconst 0, 1) := by decide +kernel
theorem d_M_between_38 : decode prog_14_method_20_code 38 = .ok (.ireturn, 1) := by decide +kernel
theorem d_M_between_31 : decode prog_14_method_20_code 31 = .ok (.sipush 261, 3) := by decide +kernel
theorem d_M_between_34 : decode prog_14_method_20_code 34 = .ok (.goto 4, 3) := by decide +kernel
theorem d_M_between_16 : decode prog_14_method_20_code 16 = .ok (.sipush 262, 3) := by decide +kernel
theorem d_M_between_19 : decode prog_14_method_20_code 19 = .ok (.goto 19, 3) := by decide +kernel
theorem d_M_knot_0 : decode prog_14_method_16_code 0 = .ok (.aload_n 0, 1) := by decide +kernel
theorem d_M_knot_1 : decode prog_14_method_16_code 1 = .ok (.getfield 220, 3) := by decide +kernel
theorem d_M_knot_4 : decode prog_14_method_16_code 4 = .ok (.bipush 64, 2) := by decide +kernel
theorem d_M_knot_6 : decode prog_14_method_16_code 6 = .ok (.if_icmp .ne 11, 3) := by decide +kernel
theorem d_M_knot_17 : decode prog_14_method_16_code 17 = .ok (.aload_n 0, 1) := by decide +kernel
theorem d_M_knot_18 : decode prog_14_method_16_code 18 = .ok (.dup, 1) := by decide +kernel
theorem d_M_knot_19 : decode prog_14_method_16_code 19 = .ok (.getfield 220, 3) := by decide +kernel
theorem d_M_knot_22 : decode prog_14_method_16_code 22 = .ok (.iconst 1, 1) := by decide +kernel
theorem d_M_knot_23 : decode prog_14_method_16_code 23 = .ok (.iadd, 1) := by decide +kernel
theorem d_M_knot_24 : decode prog_14_method_16_code 24 = .ok (.putfield 220, 3) := by decide +kernel
theorem d_M_knot_27 : decode prog_14_method_16_code 27 = .ok (.return_, 1) := by decide +kernel
theorem d_M_knot_9 : decode prog_14_method_16_code 9 = .ok (.aload_n 0, 1) := by decide +kernel
theorem d_M_knot_10 : decode prog_14_method_16_code 10 = .ok (.iconst 2, 1) := by decide +kernel
theorem d_M_knot_11 : decode prog_14_method_16_code 11 = .ok (.invokevirtual 184, 3) := by decide +kernel
theorem d_M_knot_14 : decode prog_14_method_16_code 14 = .ok (.goto 13, 3) := by decide +kernel
theorem d_M_out_0 : decode prog_14_method_17_code 0 = .ok (.aload_n 0, 1) := by decide +kernel
theorem d_M_out_1 : decode prog_14_method_17_code 1 = .ok (.getfield 13, 3) := by decide +kernel
theorem d_M_out_4 : decode prog_14_method_17_code 4 = .ok (.bipush 64, 2) := by decide +kernel
theorem d_M_out_6 : decode prog_14_method_17_code 6 = .ok (.aload_n 0, 1) := by decide +kernel
theorem d_M_out_7 : decode prog_14_method_17_code 7 = .ok (.getfield 214, 3) := by decide +kernel
theorem d_M_out_10 : decode prog_14_method_17_code 10 = .ok (.iadd, 1) := by decide +kernel
theorem d_M_out_11 : decode prog_14_method_17_code 11 = .ok (.iload_n 1, 1) := by decide +kernel
theorem d_M_out_12 : decode prog_14_method_17_code 12 = .ok (.iastore, 1) := by decide +kernel
theorem d_M_out_13 : decode prog_14_method_17_code 13 = .ok (.aload_n 0, 1) := by decide +kernel
theorem d_M_out_14 : decode prog_14_method_17_code 14 = .ok (.getfield 16, 3) := by decide +kernel
theorem d_M_out_17 : decode prog_14_method_17_code 17 = .ok (.bipush 64, 2) := by decide +kernel
theorem d_M_out_19 : decode prog_14_method_17_code 19 = .ok (.aload_n 0, 1) := by decide +kernel
theorem d_M_out_20 : decode prog_14_method_17_code 20 = .ok (.getfield 214, 3) := by decide +kernel
theorem d_M_out_23 : decode prog_14_method_17_code 23 = .ok (.iadd, 1) := by decide +kernel
theorem d_M_out_24 : decode prog_14_method_17_code 24 = .ok (.iload_n 2, 1) := by decide +kernel
theorem d_M_out_25 : decode prog_14_method_17_code 25 = .ok (.iastore, 1) := by decide +kernel
theorem d_M_out_26 : decode prog_14_method_17_code 26 = .ok (.aload_n 0, 1) := by decide +kernel
theorem d_M_out_27 : decode prog_14_method_17_code 27 = .ok (.dup, 1) := by decide +kernel
theorem d_M_out_28 : decode prog_14_method_17_code 28 = .ok (.getfield 214, 3) := by decide +kernel
theorem d_M_out_31 : decode prog_14_method_17_code 31 = .ok (.iconst 1, 1) := by decide +kernel
theorem d_M_out_32 : decode prog_14_method_17_code 32 = .ok (.iadd, 1) := by decide +kernel
theorem d_M_out_33 : decode prog_14_method_17_code 33 = .ok (.putfield 214, 3) := by decide +kernel
theorem d_M_out_36 : decode prog_14_method_17_code 36 = .ok (.return_, 1) := by decide +kernel
theorem d_M_awaits_0 : decode prog_14_method_19_code 0 = .ok (.aload_n 0, 1) := by decide +kernel
theorem d_M_awaits_1 : decode prog_14_method_19_code 1 = .ok (.getfield 36, 3) := by decide +kernel
theorem d_M_awaits_4 : decode prog_14_method_19_code 4 = .ok (.aload_n 0, 1) := by decide +kernel
theorem d_M_awaits_5 : decode prog_14_method_19_code 5 = .ok (.getfield 223, 3) := by decide +kernel
theorem d_M_awaits_8 : decode prog_14_method_19_code 8 = .ok (.iload_n 1, 1) := by decide +kernel
theorem d_M_awaits_9 : decode prog_14_method_19_code 9 = .ok (.iastore, 1) := by decide +kernel
theorem d_M_awaits_10 : decode prog_14_method_19_code 10 = .ok (.aload_n 0, 1) := by decide +kernel
theorem d_M_awaits_11 : decode prog_14_method_19_code 11 = .ok (.dup, 1) := by decide +kernel
theorem d_M_awaits_12 : decode prog_14_method_19_code 12 = .ok (.getfield 223, 3) := by decide +kernel
theorem d_M_awaits_15 : decode prog_14_method_19_code 15 = .ok (.iconst 1, 1) := by decide +kernel
theorem d_M_awaits_16 : decode prog_14_method_19_code 16 = .ok (.iadd, 1) := by decide +kernel
theorem d_M_awaits_17 : decode prog_14_method_19_code 17 = .ok (.putfield 223, 3) := by decide +kernel
theorem d_M_awaits_20 : decode prog_14_method_19_code 20 = .ok (.aload_n 0, 1) := by decide +kernel
theorem d_M_awaits_21 : decode prog_14_method_19_code 21 = .ok (.invokevirtual 188, 3) := by decide +kernel
theorem d_M_awaits_24 : decode prog_14_method_19_code 24 = .ok (.return_, 1) := by decide +kernel
theorem d_M_operand_0 : decode prog_14_method_23_code 0 = .ok (.aload_n 0, 1) := by decide +kernel
theorem d_M_operand_1 : decode prog_14_method_23_code 1 = .ok (.getfield 151, 3) := by decide +kernel
theorem d_M_operand_4 : decode prog_14_method_23_code 4 = .ok (.iconst 1, 1) := by decide +kernel
theorem d_M_operand_5 : decode prog_14_method_23_code 5 = .ok (.if_icmp .ne 53, 3) := by decide +kernel
theorem d_M_operand_58 : decode prog_14_method_23_code 58 = .ok (.aload_n 0, 1) := by decide +kernel
theorem d_M_operand_59 : decode prog_14_method_23_code 59 = .ok (.getfield 151, 3) := by decide +kernel
theorem d_M_operand_62 : decode prog_14_method_23_code 62 = .ok (.ifCond .ne 43, 3) := by decide +kernel
theorem d_M_operand_105 : decode prog_14_method_23_code 105 = .ok (.aload_n 0, 1) := by decide +kernel
theorem d_M_operand_106 : decode prog_14_method_23_code 106 = .ok (.bipush 40, 2) := by decide +kernel
theorem d_M_operand_108 : decode prog_14_method_23_code 108 = .ok (.invokevirtual 201, 3) := by decide +kernel
theorem d_M_operand_111 : decode prog_14_method_23_code 111 = .ok (.ifCond .eq 44, 3) := by decide +kernel
theorem d_M_operand_155 : decode prog_14_method_23_code 155 = .ok (.aload_n 0, 1) := by decide +kernel
theorem d_M_operand_156 : decode prog_14_method_23_code 156 = .ok (.getfield 223, 3) := by decide +kernel
theorem d_M_operand_159 : decode prog_14_method_23_code 159 = .ok (.ifCond .eq 21, 3) := by decide +kernel
theorem d_M_operand_180 : decode prog_14_method_23_code 180 = .ok (.iconst 1, 1) := by decide +kernel
theorem d_M_operand_181 : decode prog_14_method_23_code 181 = .ok (.goto 4, 3) := by decide +kernel
theorem d_M_operand_185 : decode prog_14_method_23_code 185 = .ok (.istore_n 1, 1) := by decide +kernel
theorem d_M_operand_186 : decode prog_14_method_23_code 186 = .ok (.aload_n 0, 1) := by decide +kernel
theorem d_M_operand_187 : decode prog_14_method_23_code 187 = .ok (.getfield 151, 3) := by decide +kernel
theorem d_M_operand_190 : decode prog_14_method_23_code 190 = .ok (.ifCond .ne 16, 3) := by decide +kernel
theorem d_M_operand_206 : decode prog_14_method_23_code 206 = .ok (.aload_n 0, 1) := by decide +kernel
theorem d_M_operand_207 : decode prog_14_method_23_code 207 = .ok (.iconst 1, 1) := by decide +kernel
theorem d_M_operand_208 : decode prog_14_method_23_code 208 = .ok (.invokevirtual 184, 3) := by decide +kernel
theorem d_M_operand_211 : decode prog_14_method_23_code 211 = .ok (.iconst 0, 1) := by decide +kernel
theorem d_M_operand_212 : decode prog_14_method_23_code 212 = .ok (.ireturn, 1) := by decide +kernel
theorem d_M_operand_193 : decode prog_14_method_23_code 193 = .ok (.aload_n 0, 1) := by decide +kernel
theorem d_M_operand_194 : decode prog_14_method_23_code 194 = .ok (.getfield 161, 3) := by decide +kernel
theorem d_M_operand_197 : decode prog_14_method_23_code 197 = .ok (.bipush 11, 2) := by decide +kernel
theorem d_M_operand_199 : decode prog_14_method_23_code 199 = .ok (.if_icmp .ne 7, 3) := by decide +kernel
theorem d_M_operand_202 : decode prog_14_method_23_code 202 = .ok (.iload_n 1, 1) := by decide +kernel
theorem d_M_operand_203 : decode prog_14_method_23_code 203 = .ok (.ifCond .ne 10, 3) := by decide +kernel
theorem d_M_operand_213 : decode prog_14_method_23_code 213 = .ok (.aload_n 0, 1) := by decide +kernel
theorem d_M_operand_214 : decode prog_14_method_23_code 214 = .ok (.invokevirtual 249, 3) := by decide +kernel
theorem d_M_operand_217 : decode prog_14_method_23_code 217 = .ok (.aload_n 0, 1) := by decide +kernel
theorem d_M_operand_218 : decode prog_14_method_23_code 218 = .ok (.getfield 178, 3) := by decide +kernel
theorem d_M_operand_221 : decode prog_14_method_23_code 221 = .ok (.ifCond .ne 10, 3) := by decide +kernel
theorem d_M_operand_231 : decode prog_14_method_23_code 231 = .ok (.iconst 0, 1) := by decide +kernel
theorem d_M_operand_232 : decode prog_14_method_23_code 232 = .ok (.ireturn, 1) := by decide +kernel
theorem d_M_operand_224 : decode prog_14_method_23_code 224 = .ok (.aload_n 0, 1) := by decide +kernel
theorem d_M_operand_225 : decode prog_14_method_23_code 225 = .ok (.sipush 260, 3) := by decide +kernel
theorem d_M_operand_228 : decode prog_14_method_23_code 228 = .ok (.invokevirtual 252, 3) := by decide +kernel
theorem d_M_operand_162 : decode prog_14_method_23_code 162 = .ok (.aload_n 0, 1) := by decide +kernel
theorem d_M_operand_163 : decode prog_14_method_23_code 163 = .ok (.getfield 36, 3) := by decide +kernel
theorem d_M_operand_166 : decode prog_14_method_23_code 166 = .ok (.aload_n 0, 1) := by decide +kernel
theorem d_M_operand_167 : decode prog_14_method_23_code 167 = .ok (.getfield 223, 3) := by decide +kernel
theorem d_M_operand_170 : decode prog_14_method_23_code 170 = .ok (.iconst 1, 1) := by decide +kernel
theorem d_M_operand_171 : decode prog_14_method_23_code 171 = .ok (.isub, 1) := by decide +kernel
theorem d_M_operand_172 : decode prog_14_method_23_code 172 = .ok (.iaload, 1) := by decide +kernel
theorem d_M_operand_173 : decode prog_14_method_23_code 173 = .ok (.invokestatic 226, 3) := by decide +kernel
theorem d_M_operand_176 : decode prog_14_method_23_code 176 = .ok (.iconst 4, 1) := by decide +kernel
theorem d_M_operand_177 : decode prog_14_method_23_code 177 = .ok (.if_icmp .ge 7, 3) := by decide +kernel
theorem d_M_operand_184 : decode prog_14_method_23_code 184 = .ok (.iconst 0, 1) := by decide +kernel
theorem d_M_operand_114 : decode prog_14_method_23_code 114 = .ok (.aload_n 0, 1) := by decide +kernel
theorem d_M_operand_115 : decode prog_14_method_23_code 115 = .ok (.getfield 233, 3) := by decide +kernel
theorem d_M_operand_118 : decode prog_14_method_23_code 118 = .ok (.bipush 8, 2) := by decide +kernel
theorem d_M_operand_120 : decode prog_14_method_23_code 120 = .ok (.if_icmp .ne 8, 3) := by decide +kernel
theorem d_M_operand_128 : decode prog_14_method_23_code 128 = .ok (.aload_n 0, 1) := by decide +kernel
theorem d_M_operand_129 : decode prog_14_method_23_code 129 = .ok (.getfield 178, 3) := by decide +kernel
theorem d_M_operand_132 : decode prog_14_method_23_code 132 = .ok (.ifCond .eq 5, 3) := by decide +kernel
theorem d_M_operand_137 : decode prog_14_method_23_code 137 = .ok (.aload_n 0, 1) := by decide +kernel
theorem d_M_operand_138 : decode prog_14_method_23_code 138 = .ok (.dup, 1) := by decide +kernel
theorem d_M_operand_139 : decode prog_14_method_23_code 139 = .ok (.getfield 233, 3) := by decide +kernel
theorem d_M_operand_142 : decode prog_14_method_23_code 142 = .ok (.iconst 1, 1) := by decide +kernel
theorem d_M_operand_143 : decode prog_14_method_23_code 143 = .ok (.iadd, 1) := by decide +kernel
theorem d_M_operand_144 : decode prog_14_method_23_code 144 = .ok (.putfield 233, 3) := by decide +kernel
theorem d_M_operand_147 : decode prog_14_method_23_code 147 = .ok (.aload_n 0, 1) := by decide +kernel
theorem d_M_operand_148 : decode prog_14_method_23_code 148 = .ok (.bipush 40, 2) := by decide +kernel
theorem d_M_operand_150 : decode prog_14_method_23_code 150 = .ok (.invokevirtual 252, 3) := by decide +kernel
theorem d_M_operand_153 : decode prog_14_method_23_code 153 = .ok (.iconst 0, 1) := by decide +kernel
theorem d_M_operand_154 : decode prog_14_method_23_code 154 = .ok (.ireturn, 1) := by decide +kernel
theorem d_M_operand_135 : decode prog_14_method_23_code 135 = .ok (.iconst 0, 1) := by decide +kernel
theorem d_M_operand_136 : decode prog_14_method_23_code 136 = .ok (.ireturn, 1) := by decide +kernel
theorem d_M_operand_123 : decode prog_14_method_23_code 123 = .ok (.aload_n 0, 1) := by decide +kernel
theorem d_M_operand_124 : decode prog_14_method_23_code 124 = .ok (.iconst 2, 1) := by decide +kernel
theorem d_M_operand_125 : decode prog_14_method_23_code 125 = .ok (.invokevirtual 184, 3) := by decide +kernel
theorem d_M_operand_65 : decode prog_14_method_23_code 65 = .ok (.aload_n 0, 1) := by decide +kernel
theorem d_M_operand_66 : decode prog_14_method_23_code 66 = .ok (.getfield 161, 3) := by decide +kernel
theorem d_M_operand_69 : decode prog_14_method_23_code 69 = .ok (.bipush 12, 2) := by decide +kernel
theorem d_M_operand_71 : decode prog_14_method_23_code 71 = .ok (.if_icmp .lt 34, 3) := by decide +kernel
theorem d_M_operand_74 : decode prog_14_method_23_code 74 = .ok (.aload_n 0, 1) := by decide +kernel
theorem d_M_operand_75 : decode prog_14_method_23_code 75 = .ok (.invokevirtual 249, 3) := by decide +kernel
theorem d_M_operand_78 : decode prog_14_method_23_code 78 = .ok (.aload_n 0, 1) := by decide +kernel
theorem d_M_operand_79 : decode prog_14_method_23_code 79 = .ok (.getfield 178, 3) := by decide +kernel
theorem d_M_operand_82 : decode prog_14_method_23_code 82 = .ok (.ifCond .eq 5, 3) := by decide +kernel
theorem d_M_operand_87 : decode prog_14_method_23_code 87 = .ok (.aload_n 0, 1) := by decide +kernel
theorem d_M_operand_88 : decode prog_14_method_23_code 88 = .ok (.iconst 1, 1) := by decide +kernel
theorem d_M_operand_89 : decode prog_14_method_23_code 89 = .ok (.aload_n 0, 1) := by decide +kernel
theorem d_M_operand_90 : decode prog_14_method_23_code 90 = .ok (.getfield 161, 3) := by decide +kernel
theorem d_M_operand_93 : decode prog_14_method_23_code 93 = .ok (.bipush 12, 2) := by decide +kernel
theorem d_M_operand_95 : decode prog_14_method_23_code 95 = .ok (.isub, 1) := by decide +kernel
theorem d_M_operand_96 : decode prog_14_method_23_code 96 = .ok (.invokevirtual 229, 3) := by decide +kernel
theorem d_M_operand_99 : decode prog_14_method_23_code 99 = .ok (.aload_n 0, 1) := by decide +kernel
theorem d_M_operand_100 : decode prog_14_method_23_code 100 = .ok (.invokevirtual 188, 3) := by decide +kernel
theorem d_M_operand_103 : decode prog_14_method_23_code 103 = .ok (.iconst 1, 1) := by decide +kernel
theorem d_M_operand_104 : decode prog_14_method_23_code 104 = .ok (.ireturn, 1) := by decide +kernel
theorem d_M_operand_85 : decode prog_14_method_23_code 85 = .ok (.iconst 0, 1) := by decide +kernel
theorem d_M_operand_86 : decode prog_14_method_23_code 86 = .ok (.ireturn, 1) := by decide +kernel
theorem d_M_operand_8 : decode prog_14_method_23_code 8 = .ok (.aload_n 0, 1) := by decide +kernel
theorem d_M_operand_9 : decode prog_14_method_23_code 9 = .ok (.getfield 161, 3) := by decide +kernel
theorem d_M_operand_12 : decode prog_14_method_23_code 12 = .ok (.sipush 999, 3) := by decide +kernel
theorem d_M_operand_15 : decode prog_14_method_23_code 15 = .ok (.if_icmp .le 8, 3) := by decide +kernel
theorem d_M_operand_23 : decode prog_14_method_23_code 23 = .ok (.aload_n 0, 1) := by decide +kernel
theorem d_M_operand_24 : decode prog_14_method_23_code 24 = .ok (.getfield 178, 3) := by decide +kernel
theorem d_M_operand_27 : decode prog_14_method_23_code 27 = .ok (.ifCond .ne 7, 3) := by decide +kernel
theorem d_M_operand_34 : decode prog_14_method_23_code 34 = .ok (.aload_n 0, 1) := by decide +kernel
theorem d_M_operand_35 : decode prog_14_method_23_code 35 = .ok (.getfield 178, 3) := by decide +kernel
theorem d_M_operand_38 : decode prog_14_method_23_code 38 = .ok (.ifCond .eq 5, 3) := by decide +kernel
theorem d_M_operand_43 : decode prog_14_method_23_code 43 = .ok (.aload_n 0, 1) := by decide +kernel
theorem d_M_operand_44 : decode prog_14_method_23_code 44 = .ok (.iconst 0, 1) := by decide +kernel
theorem d_M_operand_45 : decode prog_14_method_23_code 45 = .ok (.aload_n 0, 1) := by decide +kernel
theorem d_M_operand_46 : decode prog_14_method_23_code 46 = .ok (.getfield 161, 3) := by decide +kernel
theorem d_M_operand_49 : decode prog_14_method_23_code 49 = .ok (.invokevirtual 229, 3) := by decide +kernel
theorem d_M_operand_52 : decode prog_14_method_23_code 52 = .ok (.aload_n 0, 1) := by decide +kernel
theorem d_M_operand_53 : decode prog_14_method_23_code 53 = .ok (.invokevirtual 188, 3) := by decide +kernel
theorem d_M_operand_56 : decode prog_14_method_23_code 56 = .ok (.iconst 1, 1) := by decide +kernel
theorem d_M_operand_57 : decode prog_14_method_23_code 57 = .ok (.ireturn, 1) := by decide +kernel
theorem d_M_operand_41 : decode prog_14_method_23_code 41 = .ok (.iconst 0, 1) := by decide +kernel
theorem d_M_operand_42 : decode prog_14_method_23_code 42 = .ok (.ireturn, 1) := by decide +kernel
theorem d_M_operand_30 : decode prog_14_method_23_code 30 = .ok (.aload_n 0, 1) := by decide +kernel
theorem d_M_operand_31 : decode prog_14_method_23_code 31 = .ok (.invokevirtual 249, 3) := by decide +kernel
theorem d_M_operand_18 : decode prog_14_method_23_code 18 = .ok (.aload_n 0, 1) := by decide +kernel
theorem d_M_operand_19 : decode prog_14_method_23_code 19 = .ok (.iconst 2, 1) := by decide +kernel
theorem d_M_operand_20 : decode prog_14_method_23_code 20 = .ok (.invokevirtual 184, 3) := by decide +kernel
theorem d_M_pour_0 : decode prog_14_method_18_code 0 = .ok (.aload_n 0, 1) := by decide +kernel
theorem d_M_pour_1 : decode prog_14_method_18_code 1 = .ok (.getfield 223, 3) := by decide +kernel
theorem d_M_pour_4 : decode prog_14_method_18_code 4 = .ok (.ifCond .le 48, 3) := by decide +kernel
theorem d_M_pour_7 : decode prog_14_method_18_code 7 = .ok (.aload_n 0, 1) := by decide +kernel
theorem d_M_pour_8 : decode prog_14_method_18_code 8 = .ok (.getfield 36, 3) := by decide +kernel
theorem d_M_pour_11 : decode prog_14_method_18_code 11 = .ok (.aload_n 0, 1) := by decide +kernel
theorem d_M_pour_12 : decode prog_14_method_18_code 12 = .ok (.getfield 223, 3) := by decide +kernel
theorem d_M_pour_15 : decode prog_14_method_18_code 15 = .ok (.iconst 1, 1) := by decide +kernel
theorem d_M_pour_16 : decode prog_14_method_18_code 16 = .ok (.isub, 1) := by decide +kernel
theorem d_M_pour_17 : decode prog_14_method_18_code 17 = .ok (.iaload, 1) := by decide +kernel
theorem d_M_pour_18 : decode prog_14_method_18_code 18 = .ok (.invokestatic 226, 3) := by decide +kernel
theorem d_M_pour_21 : decode prog_14_method_18_code 21 = .ok (.iload_n 1, 1) := by decide +kernel
theorem d_M_pour_22 : decode prog_14_method_18_code 22 = .ok (.if_icmp .lt 30, 3) := by decide +kernel
theorem d_M_pour_25 : decode prog_14_method_18_code 25 = .ok (.aload_n 0, 1) := by decide +kernel
theorem d_M_pour_26 : decode prog_14_method_18_code 26 = .ok (.dup, 1) := by decide +kernel
theorem d_M_pour_27 : decode prog_14_method_18_code 27 = .ok (.getfield 223, 3) := by decide +kernel
theorem d_M_pour_30 : decode prog_14_method_18_code 30 = .ok (.iconst 1, 1) := by decide +kernel
theorem d_M_pour_31 : decode prog_14_method_18_code 31 = .ok (.isub, 1) := by decide +kernel
theorem d_M_pour_32 : decode prog_14_method_18_code 32 = .ok (.putfield 223, 3) := by decide +kernel
theorem d_M_pour_35 : decode prog_14_method_18_code 35 = .ok (.aload_n 0, 1) := by decide +kernel
theorem d_M_pour_36 : decode prog_14_method_18_code 36 = .ok (.iconst 2, 1) := by decide +kernel
theorem d_M_pour_37 : decode prog_14_method_18_code 37 = .ok (.aload_n 0, 1) := by decide +kernel
theorem d_M_pour_38 : decode prog_14_method_18_code 38 = .ok (.getfield 36, 3) := by decide +kernel
theorem d_M_pour_41 : decode prog_14_method_18_code 41 = .ok (.aload_n 0, 1) := by decide +kernel
theorem d_M_pour_42 : decode prog_14_method_18_code 42 = .ok (.getfield 223, 3) := by decide +kernel
theorem d_M_pour_45 : decode prog_14_method_18_code 45 = .ok (.iaload, 1) := by decide +kernel
theorem d_M_pour_46 : decode prog_14_method_18_code 46 = .ok (.invokevirtual 229, 3) := by decide +kernel
theorem d_M_pour_49 : decode prog_14_method_18_code 49 = .ok (.goto (-49), 3) := by decide +kernel
theorem d_M_pour_52 : decode prog_14_method_18_code 52 = .ok (.return_, 1) := by decide +kernel
theorem d_M_sign_0 : decode prog_14_method_22_code 0 = .ok (.iload_n 1, 1) := by decide +kernel
theorem d_M_sign_1 : decode prog_14_method_22_code 1 = .ok (.invokestatic 226, 3) := by decide +kernel
theorem d_M_sign_4 : decode prog_14_method_22_code 4 = .ok (.iconst 4, 1) := by decide +kernel
theorem d_M_sign_5 : decode prog_14_method_22_code 5 = .ok (.if_icmp .ne 41, 3) := by decide +kernel
theorem d_M_sign_46 : decode prog_14_method_22_code 46 = .ok (.aload_n 0, 1) := by decide +kernel
theorem d_M_sign_47 : decode prog_14_method_22_code 47 = .ok (.iload_n 1, 1) := by decide +kernel
theorem d_M_sign_48 : decode prog_14_method_22_code 48 = .ok (.invokestatic 226, 3) := by decide +kernel
theorem d_M_sign_51 : decode prog_14_method_22_code 51 = .ok (.invokevirtual 246, 3) := by decide +kernel
theorem d_M_sign_54 : decode prog_14_method_22_code 54 = .ok (.aload_n 0, 1) := by decide +kernel
theorem d_M_sign_55 : decode prog_14_method_22_code 55 = .ok (.getfield 178, 3) := by decide +kernel
theorem d_M_sign_58 : decode prog_14_method_22_code 58 = .ok (.ifCond .ne 7, 3) := by decide +kernel
theorem d_M_sign_65 : decode prog_14_method_22_code 65 = .ok (.aload_n 0, 1) := by decide +kernel
theorem d_M_sign_66 : decode prog_14_method_22_code 66 = .ok (.getfield 178, 3) := by decide +kernel
theorem d_M_sign_69 : decode prog_14_method_22_code 69 = .ok (.ifCond .ne 8, 3) := by decide +kernel
theorem d_M_sign_77 : decode prog_14_method_22_code 77 = .ok (.return_, 1) := by decide +kernel
theorem d_M_sign_72 : decode prog_14_method_22_code 72 = .ok (.aload_n 0, 1) := by decide +kernel
theorem d_M_sign_73 : decode prog_14_method_22_code 73 = .ok (.iload_n 1, 1) := by decide +kernel
theorem d_M_sign_74 : decode prog_14_method_22_code 74 = .ok (.invokevirtual 252, 3) := by decide +kernel
theorem d_M_sign_61 : decode prog_14_method_22_code 61 = .ok (.aload_n 0, 1) := by decide +kernel
theorem d_M_sign_62 : decode prog_14_method_22_code 62 = .ok (.invokevirtual 249, 3) := by decide +kernel
theorem d_M_sign_8 : decode prog_14_method_22_code 8 = .ok (.aload_n 0, 1) := by decide +kernel
theorem d_M_sign_9 : decode prog_14_method_22_code 9 = .ok (.iconst 5, 1) := by decide +kernel
theorem d_M_sign_10 : decode prog_14_method_22_code 10 = .ok (.invokevirtual 246, 3) := by decide +kernel
theorem d_M_sign_13 : decode prog_14_method_22_code 13 = .ok (.aload_n 0, 1) := by decide +kernel
theorem d_M_sign_14 : decode prog_14_method_22_code 14 = .ok (.getfield 223, 3) := by decide +kernel
theorem d_M_sign_17 : decode prog_14_method_22_code 17 = .ok (.ifCond .le 37, 3) := by decide +kernel
theorem d_M_sign_20 : decode prog_14_method_22_code 20 = .ok (.aload_n 0, 1) := by decide +kernel
theorem d_M_sign_21 : decode prog_14_method_22_code 21 = .ok (.getfield 36, 3) := by decide +kernel
theorem d_M_sign_24 : decode prog_14_method_22_code 24 = .ok (.aload_n 0, 1) := by decide +kernel
theorem d_M_sign_25 : decode prog_14_method_22_code 25 = .ok (.getfield 223, 3) := by decide +kernel
theorem d_M_sign_28 : decode prog_14_method_22_code 28 = .ok (.iconst 1, 1) := by decide +kernel
theorem d_M_sign_29 : decode prog_14_method_22_code 29 = .ok (.isub, 1) := by decide +kernel
theorem d_M_sign_30 : decode prog_14_method_22_code 30 = .ok (.iaload, 1) := by decide +kernel
theorem d_M_sign_31 : decode prog_14_method_22_code 31 = .ok (.invokestatic 226, 3) := by decide +kernel
theorem d_M_sign_34 : decode prog_14_method_22_code 34 = .ok (.iconst 4, 1) := by decide +kernel
theorem d_M_sign_35 : decode prog_14_method_22_code 35 = .ok (.if_icmp .ne 19, 3) := by decide +kernel
theorem d_M_sign_38 : decode prog_14_method_22_code 38 = .ok (.aload_n 0, 1) := by decide +kernel
theorem d_M_sign_39 : decode prog_14_method_22_code 39 = .ok (.iconst 1, 1) := by decide +kernel
theorem d_M_sign_40 : decode prog_14_method_22_code 40 = .ok (.invokevirtual 184, 3) := by decide +kernel
theorem d_M_sign_43 : decode prog_14_method_22_code 43 = .ok (.goto 11, 3) := by decide +kernel
theorem d_M_expression_0 : decode prog_14_method_21_code 0 = .ok (.aload_n 0, 1) := by decide +kernel
theorem d_M_expression_1 : decode prog_14_method_21_code 1 = .ok (.iconst 0, 1) := by decide +kernel
theorem d_M_expression_2 : decode prog_14_method_21_code 2 = .ok (.putfield 223, 3) := by decide +kernel
theorem d_M_expression_5 : decode prog_14_method_21_code 5 = .ok (.aload_n 0, 1) := by decide +kernel
theorem d_M_expression_6 : decode prog_14_method_21_code 6 = .ok (.iconst 0, 1) := by decide +kernel
theorem d_M_expression_7 : decode prog_14_method_21_code 7 = .ok (.putfield 233, 3) := by decide +kernel
theorem d_M_expression_10 : decode prog_14_method_21_code 10 = .ok (.iconst 0, 1) := by decide +kernel
theorem d_M_expression_11 : decode prog_14_method_21_code 11 = .ok (.istore_n 1, 1) := by decide +kernel
theorem d_M_expression_12 : decode prog_14_method_21_code 12 = .ok (.iconst 1, 1) := by decide +kernel
theorem d_M_expression_13 : decode prog_14_method_21_code 13 = .ok (.istore_n 2, 1) := by decide +kernel
theorem d_M_expression_14 : decode prog_14_method_21_code 14 = .ok (.aload_n 0, 1) := by decide +kernel
theorem d_M_expression_15 : decode prog_14_method_21_code 15 = .ok (.getfield 178, 3) := by decide +kernel
theorem d_M_expression_18 : decode prog_14_method_21_code 18 = .ok (.ifCond .ne 91, 3) := by decide +kernel
theorem d_M_expression_21 : decode prog_14_method_21_code 21 = .ok (.iload_n 2, 1) := by decide +kernel
theorem d_M_expression_22 : decode prog_14_method_21_code 22 = .ok (.ifCond .eq 87, 3) := by decide +kernel
theorem d_M_expression_25 : decode prog_14_method_21_code 25 = .ok (.iload_n 1, 1) := by decide +kernel
theorem d_M_expression_26 : decode prog_14_method_21_code 26 = .ok (.ifCond .ne 11, 3) := by decide +kernel
theorem d_M_expression_37 : decode prog_14_method_21_code 37 = .ok (.aload_n 0, 1) := by decide +kernel
theorem d_M_expression_38 : decode prog_14_method_21_code 38 = .ok (.invokevirtual 240, 3) := by decide +kernel
theorem d_M_expression_41 : decode prog_14_method_21_code 41 = .ok (.istore_n 3, 1) := by decide +kernel
theorem d_M_expression_42 : decode prog_14_method_21_code 42 = .ok (.iload_n 3, 1) := by decide +kernel
theorem d_M_expression_43 : decode prog_14_method_21_code 43 = .ok (.ifCond .eq 13, 3) := by decide +kernel
theorem d_M_expression_56 : decode prog_14_method_21_code 56 = .ok (.aload_n 0, 1) := by decide +kernel
theorem d_M_expression_57 : decode prog_14_method_21_code 57 = .ok (.bipush 41, 2) := by decide +kernel
theorem d_M_expression_59 : decode prog_14_method_21_code 59 = .ok (.invokevirtual 201, 3) := by decide +kernel
theorem d_M_expression_62 : decode prog_14_method_21_code 62 = .ok (.ifCond .eq 42, 3) := by decide +kernel
theorem d_M_expression_104 : decode prog_14_method_21_code 104 = .ok (.iconst 0, 1) := by decide +kernel
theorem d_M_expression_105 : decode prog_14_method_21_code 105 = .ok (.istore_n 2, 1) := by decide +kernel
theorem d_M_expression_106 : decode prog_14_method_21_code 106 = .ok (.goto (-92), 3) := by decide +kernel
theorem d_M_expression_65 : decode prog_14_method_21_code 65 = .ok (.aload_n 0, 1) := by decide +kernel
theorem d_M_expression_66 : decode prog_14_method_21_code 66 = .ok (.getfield 233, 3) := by decide +kernel
theorem d_M_expression_69 : decode prog_14_method_21_code 69 = .ok (.ifCond .le 35, 3) := by decide +kernel
theorem d_M_expression_72 : decode prog_14_method_21_code 72 = .ok (.aload_n 0, 1) := by decide +kernel
theorem d_M_expression_73 : decode prog_14_method_21_code 73 = .ok (.iconst 1, 1) := by decide +kernel
theorem d_M_expression_74 : decode prog_14_method_21_code 74 = .ok (.invokevirtual 246, 3) := by decide +kernel
theorem d_M_expression_77 : decode prog_14_method_21_code 77 = .ok (.aload_n 0, 1) := by decide +kernel
theorem d_M_expression_78 : decode prog_14_method_21_code 78 = .ok (.dup, 1) := by decide +kernel
theorem d_M_expression_79 : decode prog_14_method_21_code 79 = .ok (.getfield 223, 3) := by decide +kernel
theorem d_M_expression_82 : decode prog_14_method_21_code 82 = .ok (.iconst 1, 1) := by decide +kernel
theorem d_M_expression_83 : decode prog_14_method_21_code 83 = .ok (.isub, 1) := by decide +kernel
theorem d_M_expression_84 : decode prog_14_method_21_code 84 = .ok (.putfield 223, 3) := by decide +kernel
theorem d_M_expression_87 : decode prog_14_method_21_code 87 = .ok (.aload_n 0, 1) := by decide +kernel
theorem d_M_expression_88 : decode prog_14_method_21_code 88 = .ok (.dup, 1) := by decide +kernel
theorem d_M_expression_89 : decode prog_14_method_21_code 89 = .ok (.getfield 233, 3) := by decide +kernel
theorem d_M_expression_92 : decode prog_14_method_21_code 92 = .ok (.iconst 1, 1) := by decide +kernel
theorem d_M_expression_93 : decode prog_14_method_21_code 93 = .ok (.isub, 1) := by decide +kernel
theorem d_M_expression_94 : decode prog_14_method_21_code 94 = .ok (.putfield 233, 3) := by decide +kernel
theorem d_M_expression_97 : decode prog_14_method_21_code 97 = .ok (.aload_n 0, 1) := by decide +kernel
theorem d_M_expression_98 : decode prog_14_method_21_code 98 = .ok (.invokevirtual 188, 3) := by decide +kernel
theorem d_M_expression_101 : decode prog_14_method_21_code 101 = .ok (.goto 5, 3) := by decide +kernel
theorem d_M_expression_46 : decode prog_14_method_21_code 46 = .ok (.aload_n 0, 1) := by decide +kernel
theorem d_M_expression_47 : decode prog_14_method_21_code 47 = .ok (.iload_n 3, 1) := by decide +kernel
theorem d_M_expression_48 : decode prog_14_method_21_code 48 = .ok (.invokevirtual 243, 3) := by decide +kernel
theorem d_M_expression_51 : decode prog_14_method_21_code 51 = .ok (.iconst 0, 1) := by decide +kernel
theorem d_M_expression_52 : decode prog_14_method_21_code 52 = .ok (.istore_n 1, 1) := by decide +kernel
theorem d_M_expression_53 : decode prog_14_method_21_code 53 = .ok (.goto 53, 3) := by decide +kernel
theorem d_M_expression_29 : decode prog_14_method_21_code 29 = .ok (.aload_n 0, 1) := by decide +kernel
theorem d_M_expression_30 : decode prog_14_method_21_code 30 = .ok (.invokevirtual 236, 3) := by decide +kernel
theorem d_M_expression_33 : decode prog_14_method_21_code 33 = .ok (.istore_n 1, 1) := by decide +kernel
theorem d_M_expression_34 : decode prog_14_method_21_code 34 = .ok (.goto (-20), 3) := by decide +kernel
theorem d_M_expression_109 : decode prog_14_method_21_code 109 = .ok (.aload_n 0, 1) := by decide +kernel
theorem d_M_expression_110 : decode prog_14_method_21_code 110 = .ok (.getfield 178, 3) := by decide +kernel
theorem d_M_expression_113 : decode prog_14_method_21_code 113 = .ok (.ifCond .eq 4, 3) := by decide +kernel
theorem d_M_expression_117 : decode prog_14_method_21_code 117 = .ok (.aload_n 0, 1) := by decide +kernel
theorem d_M_expression_118 : decode prog_14_method_21_code 118 = .ok (.getfield 233, 3) := by decide +kernel
theorem d_M_expression_121 : decode prog_14_method_21_code 121 = .ok (.ifCond .le 8, 3) := by decide +kernel
theorem d_M_expression_129 : decode prog_14_method_21_code 129 = .ok (.aload_n 0, 1) := by decide +kernel
theorem d_M_expression_130 : decode prog_14_method_21_code 130 = .ok (.getfield 178, 3) := by decide +kernel
theorem d_M_expression_133 : decode prog_14_method_21_code 133 = .ok (.ifCond .ne 8, 3) := by decide +kernel
theorem d_M_expression_141 : decode prog_14_method_21_code 141 = .ok (.return_, 1) := by decide +kernel
theorem d_M_expression_136 : decode prog_14_method_21_code 136 = .ok (.aload_n 0, 1) := by decide +kernel
theorem d_M_expression_137 : decode prog_14_method_21_code 137 = .ok (.iconst 1, 1) := by decide +kernel
theorem d_M_expression_138 : decode prog_14_method_21_code 138 = .ok (.invokevirtual 246, 3) := by decide +kernel
theorem d_M_expression_124 : decode prog_14_method_21_code 124 = .ok (.aload_n 0, 1) := by decide +kernel
theorem d_M_expression_125 : decode prog_14_method_21_code 125 = .ok (.iconst 1, 1) := by decide +kernel
theorem d_M_expression_126 : decode prog_14_method_21_code 126 = .ok (.invokevirtual 184, 3) := by decide +kernel
theorem d_M_expression_116 : decode prog_14_method_21_code 116 = .ok (.return_, 1) := by decide +kernel
theorem d_M_habit_0 : decode prog_14_method_14_code 0 = .ok (.bipush 9, 2) := by decide +kernel
theorem d_M_habit_2 : decode prog_14_method_14_code 2 = .ok (.aload_n 0, 1) := by decide +kernel
theorem d_M_habit_3 : decode prog_14_method_14_code 3 = .ok (.getfield 191, 3) := by decide +kernel
theorem d_M_habit_6 : decode prog_14_method_14_code 6 = .ok (.iadd, 1) := by decide +kernel
theorem d_M_habit_7 : decode prog_14_method_14_code 7 = .ok (.istore_n 2, 1) := by decide +kernel
theorem d_M_habit_8 : decode prog_14_method_14_code 8 = .ok (.aload_n 0, 1) := by decide +kernel
theorem d_M_habit_9 : decode prog_14_method_14_code 9 = .ok (.getfield 19, 3) := by decide +kernel
theorem d_M_habit_12 : decode prog_14_method_14_code 12 = .ok (.iload_n 2, 1) := by decide +kernel
theorem d_M_habit_13 : decode prog_14_method_14_code 13 = .ok (.iload_n 1, 1) := by decide +kernel
theorem d_M_habit_14 : decode prog_14_method_14_code 14 = .ok (.bastore, 1) := by decide +kernel
theorem d_M_habit_15 : decode prog_14_method_14_code 15 = .ok (.aload_n 0, 1) := by decide +kernel
theorem d_M_habit_16 : decode prog_14_method_14_code 16 = .ok (.getfield 26, 3) := by decide +kernel
theorem d_M_habit_19 : decode prog_14_method_14_code 19 = .ok (.iload_n 2, 1) := by decide +kernel
theorem d_M_habit_20 : decode prog_14_method_14_code 20 = .ok (.aload_n 0, 1) := by decide +kernel
theorem d_M_habit_21 : decode prog_14_method_14_code 21 = .ok (.getfield 214, 3) := by decide +kernel
theorem d_M_habit_24 : decode prog_14_method_14_code 24 = .ok (.iastore, 1) := by decide +kernel
theorem d_M_habit_25 : decode prog_14_method_14_code 25 = .ok (.aload_n 0, 1) := by decide +kernel
theorem d_M_habit_26 : decode prog_14_method_14_code 26 = .ok (.invokevirtual 217, 3) := by decide +kernel
theorem d_M_habit_29 : decode prog_14_method_14_code 29 = .ok (.aload_n 0, 1) := by decide +kernel
theorem d_M_habit_30 : decode prog_14_method_14_code 30 = .ok (.getfield 178, 3) := by decide +kernel
theorem d_M_habit_33 : decode prog_14_method_14_code 33 = .ok (.ifCond .eq 4, 3) := by decide +kernel
theorem d_M_habit_37 : decode prog_14_method_14_code 37 = .ok (.aload_n 0, 1) := by decide +kernel
theorem d_M_habit_38 : decode prog_14_method_14_code 38 = .ok (.getfield 23, 3) := by decide +kernel
theorem d_M_habit_41 : decode prog_14_method_14_code 41 = .ok (.iload_n 2, 1) := by decide +kernel
theorem d_M_habit_42 : decode prog_14_method_14_code 42 = .ok (.iconst 0, 1) := by decide +kernel
theorem d_M_habit_43 : decode prog_14_method_14_code 43 = .ok (.iastore, 1) := by decide +kernel
theorem d_M_habit_44 : decode prog_14_method_14_code 44 = .ok (.aload_n 0, 1) := by decide +kernel
theorem d_M_habit_45 : decode prog_14_method_14_code 45 = .ok (.getfield 151, 3) := by decide +kernel
theorem d_M_habit_48 : decode prog_14_method_14_code 48 = .ok (.ifCond .ne 47, 3) := by decide +kernel
theorem d_M_habit_95 : decode prog_14_method_14_code 95 = .ok (.aload_n 0, 1) := by decide +kernel
theorem d_M_habit_96 : decode prog_14_method_14_code 96 = .ok (.getfield 178, 3) := by decide +kernel
theorem d_M_habit_99 : decode prog_14_method_14_code 99 = .ok (.ifCond .eq 4, 3) := by decide +kernel
theorem d_M_habit_103 : decode prog_14_method_14_code 103 = .ok (.aload_n 0, 1) := by decide +kernel
theorem d_M_habit_104 : decode prog_14_method_14_code 104 = .ok (.dup, 1) := by decide +kernel
theorem d_M_habit_105 : decode prog_14_method_14_code 105 = .ok (.getfield 191, 3) := by decide +kernel
theorem d_M_habit_108 : decode prog_14_method_14_code 108 = .ok (.iconst 1, 1) := by decide +kernel
theorem d_M_habit_109 : decode prog_14_method_14_code 109 = .ok (.iadd, 1) := by decide +kernel
theorem d_M_habit_110 : decode prog_14_method_14_code 110 = .ok (.putfield 191, 3) := by decide +kernel
theorem d_M_habit_113 : decode prog_14_method_14_code 113 = .ok (.aload_n 0, 1) := by decide +kernel
theorem d_M_habit_114 : decode prog_14_method_14_code 114 = .ok (.getfield 26, 3) := by decide +kernel
theorem d_M_habit_117 : decode prog_14_method_14_code 117 = .ok (.bipush 9, 2) := by decide +kernel
theorem d_M_habit_119 : decode prog_14_method_14_code 119 = .ok (.aload_n 0, 1) := by decide +kernel
theorem d_M_habit_120 : decode prog_14_method_14_code 120 = .ok (.getfield 191, 3) := by decide +kernel
theorem d_M_habit_123 : decode prog_14_method_14_code 123 = .ok (.iadd, 1) := by decide +kernel
theorem d_M_habit_124 : decode prog_14_method_14_code 124 = .ok (.aload_n 0, 1) := by decide +kernel
theorem d_M_habit_125 : decode prog_14_method_14_code 125 = .ok (.getfield 214, 3) := by decide +kernel
theorem d_M_habit_128 : decode prog_14_method_14_code 128 = .ok (.iastore, 1) := by decide +kernel
theorem d_M_habit_129 : decode prog_14_method_14_code 129 = .ok (.return_, 1) := by decide +kernel
theorem d_M_habit_102 : decode prog_14_method_14_code 102 = .ok (.return_, 1) := by decide +kernel
theorem d_M_habit_51 : decode prog_14_method_14_code 51 = .ok (.aload_n 0, 1) := by decide +kernel
theorem d_M_habit_52 : decode prog_14_method_14_code 52 = .ok (.getfield 161, 3) := by decide +kernel
theorem d_M_habit_55 : decode prog_14_method_14_code 55 = .ok (.iconst 3, 1) := by decide +kernel
theorem d_M_habit_56 : decode prog_14_method_14_code 56 = .ok (.if_icmp .ne 39, 3) := by decide +kernel
theorem d_M_habit_59 : decode prog_14_method_14_code 59 = .ok (.aload_n 0, 1) := by decide +kernel
theorem d_M_habit_60 : decode prog_14_method_14_code 60 = .ok (.invokevirtual 188, 3) := by decide +kernel
theorem d_M_habit_63 : decode prog_14_method_14_code 63 = .ok (.aload_n 0, 1) := by decide +kernel
theorem d_M_habit_64 : decode prog_14_method_14_code 64 = .ok (.getfield 23, 3) := by decide +kernel
theorem d_M_habit_67 : decode prog_14_method_14_code 67 = .ok (.iload_n 2, 1) := by decide +kernel
theorem d_M_habit_68 : decode prog_14_method_14_code 68 = .ok (.aload_n 0, 1) := by decide +kernel
theorem d_M_habit_69 : decode prog_14_method_14_code 69 = .ok (.iconst 0, 1) := by decide +kernel
theorem d_M_habit_70 : decode prog_14_method_14_code 70 = .ok (.invokevirtual 210, 3) := by decide +kernel
theorem d_M_habit_73 : decode prog_14_method_14_code 73 = .ok (.iastore, 1) := by decide +kernel
theorem d_M_habit_74 : decode prog_14_method_14_code 74 = .ok (.aload_n 0, 1) := by decide +kernel
theorem d_M_habit_75 : decode prog_14_method_14_code 75 = .ok (.getfield 178, 3) := by decide +kernel
theorem d_M_habit_78 : decode prog_14_method_14_code 78 = .ok (.ifCond .ne 17, 3) := by decide +kernel
theorem d_M_habit_81 : decode prog_14_method_14_code 81 = .ok (.aload_n 0, 1) := by decide +kernel
theorem d_M_habit_82 : decode prog_14_method_14_code 82 = .ok (.getfield 23, 3) := by decide +kernel
theorem d_M_habit_85 : decode prog_14_method_14_code 85 = .ok (.iload_n 2, 1) := by decide +kernel
theorem d_M_habit_86 : decode prog_14_method_14_code 86 = .ok (.iaload, 1) := by decide +kernel
theorem d_M_habit_87 : decode prog_14_method_14_code 87 = .ok (.ifCond .ne 8, 3) := by decide +kernel
theorem d_M_habit_90 : decode prog_14_method_14_code 90 = .ok (.aload_n 0, 1) := by decide +kernel
theorem d_M_habit_91 : decode prog_14_method_14_code 91 = .ok (.iconst 1, 1) := by decide +kernel
theorem d_M_habit_92 : decode prog_14_method_14_code 92 = .ok (.invokevirtual 184, 3) := by decide +kernel
theorem d_M_habit_36 : decode prog_14_method_14_code 36 = .ok (.return_, 1) := by decide +kernel
theorem d_M_reads_0 : decode prog_14_method_13_code 0 = .ok (.aload_n 0, 1) := by decide +kernel
theorem d_M_reads_1 : decode prog_14_method_13_code 1 = .ok (.getfield 151, 3) := by decide +kernel
theorem d_M_reads_4 : decode prog_14_method_13_code 4 = .ok (.ifCond .ne 20, 3) := by decide +kernel
theorem d_M_reads_24 : decode prog_14_method_13_code 24 = .ok (.aload_n 0, 1) := by decide +kernel
theorem d_M_reads_25 : decode prog_14_method_13_code 25 = .ok (.iconst 1, 1) := by decide +kernel
theorem d_M_reads_26 : decode prog_14_method_13_code 26 = .ok (.invokevirtual 184, 3) := by decide +kernel
theorem d_M_reads_29 : decode prog_14_method_13_code 29 = .ok (.return_, 1) := by decide +kernel
theorem d_M_reads_7 : decode prog_14_method_13_code 7 = .ok (.aload_n 0, 1) := by decide +kernel
theorem d_M_reads_8 : decode prog_14_method_13_code 8 = .ok (.getfield 161, 3) := by decide +kernel
theorem d_M_reads_11 : decode prog_14_method_13_code 11 = .ok (.iconst 4, 1) := by decide +kernel
theorem d_M_reads_12 : decode prog_14_method_13_code 12 = .ok (.if_icmp .lt 12, 3) := by decide +kernel
theorem d_M_reads_15 : decode prog_14_method_13_code 15 = .ok (.aload_n 0, 1) := by decide +kernel
theorem d_M_reads_16 : decode prog_14_method_13_code 16 = .ok (.getfield 161, 3) := by decide +kernel
theorem d_M_reads_19 : decode prog_14_method_13_code 19 = .ok (.bipush 8, 2) := by decide +kernel
theorem d_M_reads_21 : decode prog_14_method_13_code 21 = .ok (.if_icmp .le 9, 3) := by decide +kernel
theorem d_M_reads_30 : decode prog_14_method_13_code 30 = .ok (.aload_n 0, 1) := by decide +kernel
theorem d_M_reads_31 : decode prog_14_method_13_code 31 = .ok (.getfield 161, 3) := by decide +kernel
theorem d_M_reads_34 : decode prog_14_method_13_code 34 = .ok (.iconst 4, 1) := by decide +kernel
theorem d_M_reads_35 : decode prog_14_method_13_code 35 = .ok (.isub, 1) := by decide +kernel
theorem d_M_reads_36 : decode prog_14_method_13_code 36 = .ok (.istore_n 1, 1) := by decide +kernel
theorem d_M_reads_37 : decode prog_14_method_13_code 37 = .ok (.aload_n 0, 1) := by decide +kernel
theorem d_M_reads_38 : decode prog_14_method_13_code 38 = .ok (.invokevirtual 188, 3) := by decide +kernel
theorem d_M_reads_41 : decode prog_14_method_13_code 41 = .ok (.aload_n 0, 1) := by decide +kernel
theorem d_M_reads_42 : decode prog_14_method_13_code 42 = .ok (.aload_n 0, 1) := by decide +kernel
theorem d_M_reads_43 : decode prog_14_method_13_code 43 = .ok (.getfield 207, 3) := by decide +kernel
theorem d_M_reads_46 : decode prog_14_method_13_code 46 = .ok (.invokevirtual 210, 3) := by decide +kernel
theorem d_M_reads_49 : decode prog_14_method_13_code 49 = .ok (.istore_n 2, 1) := by decide +kernel
theorem d_M_reads_50 : decode prog_14_method_13_code 50 = .ok (.aload_n 0, 1) := by decide +kernel
theorem d_M_reads_51 : decode prog_14_method_13_code 51 = .ok (.getfield 178, 3) := by decide +kernel
theorem d_M_reads_54 : decode prog_14_method_13_code 54 = .ok (.ifCond .eq 4, 3) := by decide +kernel
theorem d_M_reads_58 : decode prog_14_method_13_code 58 = .ok (.iload_n 2, 1) := by decide +kernel
theorem d_M_reads_59 : decode prog_14_method_13_code 59 = .ok (.ifCond .ne 35, 3) := by decide +kernel
theorem d_M_reads_94 : decode prog_14_method_13_code 94 = .ok (.aload_n 0, 1) := by decide +kernel
theorem d_M_reads_95 : decode prog_14_method_13_code 95 = .ok (.getfield 178, 3) := by decide +kernel
theorem d_M_reads_98 : decode prog_14_method_13_code 98 = .ok (.ifCond .eq 4, 3) := by decide +kernel
theorem d_M_reads_102 : decode prog_14_method_13_code 102 = .ok (.aload_n 0, 1) := by decide +kernel
theorem d_M_reads_103 : decode prog_14_method_13_code 103 = .ok (.dup, 1) := by decide +kernel
theorem d_M_reads_104 : decode prog_14_method_13_code 104 = .ok (.getfield 207, 3) := by decide +kernel
theorem d_M_reads_107 : decode prog_14_method_13_code 107 = .ok (.iload_n 2, 1) := by decide +kernel
theorem d_M_reads_108 : decode prog_14_method_13_code 108 = .ok (.ior, 1) := by decide +kernel
theorem d_M_reads_109 : decode prog_14_method_13_code 109 = .ok (.putfield 207, 3) := by decide +kernel
theorem d_M_reads_112 : decode prog_14_method_13_code 112 = .ok (.iconst 0, 1) := by decide +kernel
theorem d_M_reads_113 : decode prog_14_method_13_code 113 = .ok (.istore_n 3, 1) := by decide +kernel
theorem d_M_reads_114 : decode prog_14_method_13_code 114 = .ok (.iload_n 3, 1) := by decide +kernel
theorem d_M_reads_115 : decode prog_14_method_13_code 115 = .ok (.bipush 6, 2) := by decide +kernel
theorem d_M_reads_117 : decode prog_14_method_13_code 117 = .ok (.if_icmp .ge 28, 3) := by decide +kernel
theorem d_M_reads_120 : decode prog_14_method_13_code 120 = .ok (.iload_n 2, 1) := by decide +kernel
theorem d_M_reads_121 : decode prog_14_method_13_code 121 = .ok (.iload_n 3, 1) := by decide +kernel
theorem d_M_reads_122 : decode prog_14_method_13_code 122 = .ok (.ishr, 1) := by decide +kernel
theorem d_M_reads_123 : decode prog_14_method_13_code 123 = .ok (.iconst 1, 1) := by decide +kernel
theorem d_M_reads_124 : decode prog_14_method_13_code 124 = .ok (.iand, 1) := by decide +kernel
theorem d_M_reads_125 : decode prog_14_method_13_code 125 = .ok (.iconst 1, 1) := by decide +kernel
theorem d_M_reads_126 : decode prog_14_method_13_code 126 = .ok (.if_icmp .ne 13, 3) := by decide +kernel
theorem d_M_reads_139 : decode prog_14_method_13_code 139 = .ok (.iinc 3 1, 3) := by decide +kernel
theorem d_M_reads_142 : decode prog_14_method_13_code 142 = .ok (.goto (-28), 3) := by decide +kernel
theorem d_M_reads_129 : decode prog_14_method_13_code 129 = .ok (.aload_n 0, 1) := by decide +kernel
theorem d_M_reads_130 : decode prog_14_method_13_code 130 = .ok (.getfield 29, 3) := by decide +kernel
theorem d_M_reads_133 : decode prog_14_method_13_code 133 = .ok (.bipush 6, 2) := by decide +kernel
theorem d_M_reads_135 : decode prog_14_method_13_code 135 = .ok (.iload_n 3, 1) := by decide +kernel
theorem d_M_reads_136 : decode prog_14_method_13_code 136 = .ok (.iadd, 1) := by decide +kernel
theorem d_M_reads_137 : decode prog_14_method_13_code 137 = .ok (.iload_n 1, 1) := by decide +kernel
theorem d_M_reads_138 : decode prog_14_method_13_code 138 = .ok (.iastore, 1) := by decide +kernel
theorem d_M_reads_145 : decode prog_14_method_13_code 145 = .ok (.return_, 1) := by decide +kernel
theorem d_M_reads_101 : decode prog_14_method_13_code 101 = .ok (.return_, 1) := by decide +kernel
theorem d_M_reads_62 : decode prog_14_method_13_code 62 = .ok (.aload_n 0, 1) := by decide +kernel
theorem d_M_reads_63 : decode prog_14_method_13_code 63 = .ok (.bipush 59, 2) := by decide +kernel
theorem d_M_reads_65 : decode prog_14_method_13_code 65 = .ok (.invokevirtual 201, 3) := by decide +kernel
theorem d_M_reads_68 : decode prog_14_method_13_code 68 = .ok (.ifCond .ne 11, 3) := by decide +kernel
theorem d_M_reads_79 : decode prog_14_method_13_code 79 = .ok (.aload_n 0, 1) := by decide +kernel
theorem d_M_reads_80 : decode prog_14_method_13_code 80 = .ok (.getfield 207, 3) := by decide +kernel
theorem d_M_reads_83 : decode prog_14_method_13_code 83 = .ok (.ifCond .eq 8, 3) := by decide +kernel
theorem d_M_reads_91 : decode prog_14_method_13_code 91 = .ok (.bipush 63, 2) := by decide +kernel
theorem d_M_reads_93 : decode prog_14_method_13_code 93 = .ok (.istore_n 2, 1) := by decide +kernel
theorem d_M_reads_86 : decode prog_14_method_13_code 86 = .ok (.aload_n 0, 1) := by decide +kernel
theorem d_M_reads_87 : decode prog_14_method_13_code 87 = .ok (.iconst 3, 1) := by decide +kernel
theorem d_M_reads_88 : decode prog_14_method_13_code 88 = .ok (.invokevirtual 184, 3) := by decide +kernel
theorem d_M_reads_71 : decode prog_14_method_13_code 71 = .ok (.aload_n 0, 1) := by decide +kernel
theorem d_M_reads_72 : decode prog_14_method_13_code 72 = .ok (.iconst 1, 1) := by decide +kernel
theorem d_M_reads_73 : decode prog_14_method_13_code 73 = .ok (.invokevirtual 184, 3) := by decide +kernel
theorem d_M_reads_76 : decode prog_14_method_13_code 76 = .ok (.goto 15, 3) := by decide +kernel
theorem d_M_reads_57 : decode prog_14_method_13_code 57 = .ok (.return_, 1) := by decide +kernel
theorem d_M_line_0 : decode prog_14_method_12_code 0 = .ok (.aload_n 0, 1) := by decide +kernel
theorem d_M_line_1 : decode prog_14_method_12_code 1 = .ok (.getfield 151, 3) := by decide +kernel
theorem d_M_line_4 : decode prog_14_method_12_code 4 = .ok (.ifCond .ne 11, 3) := by decide +kernel
theorem d_M_line_15 : decode prog_14_method_12_code 15 = .ok (.aload_n 0, 1) := by decide +kernel
theorem d_M_line_16 : decode prog_14_method_12_code 16 = .ok (.iconst 1, 1) := by decide +kernel
theorem d_M_line_17 : decode prog_14_method_12_code 17 = .ok (.invokevirtual 184, 3) := by decide +kernel
theorem d_M_line_20 : decode prog_14_method_12_code 20 = .ok (.return_, 1) := by decide +kernel
theorem d_M_line_7 : decode prog_14_method_12_code 7 = .ok (.aload_n 0, 1) := by decide +kernel
theorem d_M_line_8 : decode prog_14_method_12_code 8 = .ok (.getfield 161, 3) := by decide +kernel
theorem d_M_line_11 : decode prog_14_method_12_code 11 = .ok (.iconst 2, 1) := by decide +kernel
theorem d_M_line_12 : decode prog_14_method_12_code 12 = .ok (.if_icmp .le 9, 3) := by decide +kernel
theorem d_M_line_21 : decode prog_14_method_12_code 21 = .ok (.aload_n 0, 1) := by decide +kernel
theorem d_M_line_22 : decode prog_14_method_12_code 22 = .ok (.getfield 161, 3) := by decide +kernel
theorem d_M_line_25 : decode prog_14_method_12_code 25 = .ok (.istore_n 1, 1) := by decide +kernel
theorem d_M_line_26 : decode prog_14_method_12_code 26 = .ok (.iload_n 1, 1) := by decide +kernel
theorem d_M_line_27 : decode prog_14_method_12_code 27 = .ok (.ifCond .eq 18, 3) := by decide +kernel
theorem d_M_line_45 : decode prog_14_method_12_code 45 = .ok (.aload_n 0, 1) := by decide +kernel
theorem d_M_line_46 : decode prog_14_method_12_code 46 = .ok (.invokevirtual 188, 3) := by decide +kernel
theorem d_M_line_49 : decode prog_14_method_12_code 49 = .ok (.iload_n 1, 1) := by decide +kernel
theorem d_M_line_50 : decode prog_14_method_12_code 50 = .ok (.ifCond .ne 10, 3) := by decide +kernel
theorem d_M_line_60 : decode prog_14_method_12_code 60 = .ok (.aload_n 0, 1) := by decide +kernel
theorem d_M_line_61 : decode prog_14_method_12_code 61 = .ok (.iload_n 1, 1) := by decide +kernel
theorem d_M_line_62 : decode prog_14_method_12_code 62 = .ok (.iconst 2, 1) := by decide +kernel
theorem d_M_line_63 : decode prog_14_method_12_code 63 = .ok (.if_icmp .ne 7, 3) := by decide +kernel
theorem d_M_line_70 : decode prog_14_method_12_code 70 = .ok (.iconst 0, 1) := by decide +kernel
theorem d_M_line_71 : decode prog_14_method_12_code 71 = .ok (.invokevirtual 197, 3) := by decide +kernel
theorem d_M_line_74 : decode prog_14_method_12_code 74 = .ok (.aload_n 0, 1) := by decide +kernel
theorem d_M_line_75 : decode prog_14_method_12_code 75 = .ok (.getfield 178, 3) := by decide +kernel
theorem d_M_line_78 : decode prog_14_method_12_code 78 = .ok (.ifCond .eq 4, 3) := by decide +kernel
theorem d_M_line_82 : decode prog_14_method_12_code 82 = .ok (.aload_n 0, 1) := by decide +kernel
theorem d_M_line_83 : decode prog_14_method_12_code 83 = .ok (.bipush 59, 2) := by decide +kernel
theorem d_M_line_85 : decode prog_14_method_12_code 85 = .ok (.invokevirtual 201, 3) := by decide +kernel
theorem d_M_line_88 : decode prog_14_method_12_code 88 = .ok (.ifCond .ne 9, 3) := by decide +kernel
theorem d_M_line_97 : decode prog_14_method_12_code 97 = .ok (.aload_n 0, 1) := by decide +kernel
theorem d_M_line_98 : decode prog_14_method_12_code 98 = .ok (.invokevirtual 188, 3) := by decide +kernel
theorem d_M_line_101 : decode prog_14_method_12_code 101 = .ok (.aload_n 0, 1) := by decide +kernel
theorem d_M_line_102 : decode prog_14_method_12_code 102 = .ok (.dup, 1) := by decide +kernel
theorem d_M_line_103 : decode prog_14_method_12_code 103 = .ok (.getfield 204, 3) := by decide +kernel
theorem d_M_line_106 : decode prog_14_method_12_code 106 = .ok (.iconst 1, 1) := by decide +kernel
theorem d_M_line_107 : decode prog_14_method_12_code 107 = .ok (.iadd, 1) := by decide +kernel
theorem d_M_line_108 : decode prog_14_method_12_code 108 = .ok (.putfield 204, 3) := by decide +kernel
theorem d_M_line_111 : decode prog_14_method_12_code 111 = .ok (.return_, 1) := by decide +kernel
theorem d_M_line_91 : decode prog_14_method_12_code 91 = .ok (.aload_n 0, 1) := by decide +kernel
theorem d_M_line_92 : decode prog_14_method_12_code 92 = .ok (.iconst 1, 1) := by decide +kernel
theorem d_M_line_93 : decode prog_14_method_12_code 93 = .ok (.invokevirtual 184, 3) := by decide +kernel
theorem d_M_line_96 : decode prog_14_method_12_code 96 = .ok (.return_, 1) := by decide +kernel
theorem d_M_line_81 : decode prog_14_method_12_code 81 = .ok (.return_, 1) := by decide +kernel
theorem d_M_line_66 : decode prog_14_method_12_code 66 = .ok (.iconst 1, 1) := by decide +kernel
theorem d_M_line_67 : decode prog_14_method_12_code 67 = .ok (.goto 4, 3) := by decide +kernel
theorem d_M_line_53 : decode prog_14_method_12_code 53 = .ok (.aload_n 0, 1) := by decide +kernel
theorem d_M_line_54 : decode prog_14_method_12_code 54 = .ok (.invokevirtual 194, 3) := by decide +kernel
theorem d_M_line_57 : decode prog_14_method_12_code 57 = .ok (.goto 17, 3) := by decide +kernel
theorem d_M_line_30 : decode prog_14_method_12_code 30 = .ok (.aload_n 0, 1) := by decide +kernel
theorem d_M_line_31 : decode prog_14_method_12_code 31 = .ok (.getfield 191, 3) := by decide +kernel
theorem d_M_line_34 : decode prog_14_method_12_code 34 = .ok (.bipush 8, 2) := by decide +kernel
theorem d_M_line_36 : decode prog_14_method_12_code 36 = .ok (.if_icmp .ne 9, 3) := by decide +kernel
theorem d_M_line_39 : decode prog_14_method_12_code 39 = .ok (.aload_n 0, 1) := by decide +kernel
theorem d_M_line_40 : decode prog_14_method_12_code 40 = .ok (.iconst 2, 1) := by decide +kernel
theorem d_M_line_41 : decode prog_14_method_12_code 41 = .ok (.invokevirtual 184, 3) := by decide +kernel
theorem d_M_line_44 : decode prog_14_method_12_code 44 = .ok (.return_, 1) := by decide +kernel
theorem d_M_text_0 : decode prog_14_method_24_code 0 = .ok (.aload_n 0, 1) := by decide +kernel
theorem d_M_text_1 : decode prog_14_method_24_code 1 = .ok (.iconst 0, 1) := by decide +kernel
theorem d_M_text_2 : decode prog_14_method_24_code 2 = .ok (.putfield 132, 3) := by decide +kernel
theorem d_M_text_5 : decode prog_14_method_24_code 5 = .ok (.iload_n 1, 1) := by decide +kernel
theorem d_M_text_6 : decode prog_14_method_24_code 6 = .ok (.ifCond .lt 11, 3) := by decide +kernel
theorem d_M_text_17 : decode prog_14_method_24_code 17 = .ok (.bipush (-2), 2) := by decide +kernel
theorem d_M_text_19 : decode prog_14_method_24_code 19 = .ok (.ireturn, 1) := by decide +kernel
theorem d_M_text_9 : decode prog_14_method_24_code 9 = .ok (.iload_n 1, 1) := by decide +kernel
theorem d_M_text_10 : decode prog_14_method_24_code 10 = .ok (.aload_n 0, 1) := by decide +kernel
theorem d_M_text_11 : decode prog_14_method_24_code 11 = .ok (.getfield 135, 3) := by decide +kernel
theorem d_M_text_14 : decode prog_14_method_24_code 14 = .ok (.if_icmp .le 6, 3) := by decide +kernel
theorem d_M_text_20 : decode prog_14_method_24_code 20 = .ok (.aload_n 0, 1) := by decide +kernel
theorem d_M_text_21 : decode prog_14_method_24_code 21 = .ok (.iload_n 1, 1) := by decide +kernel
theorem d_M_text_22 : decode prog_14_method_24_code 22 = .ok (.putfield 141, 3) := by decide +kernel
theorem d_M_text_25 : decode prog_14_method_24_code 25 = .ok (.aload_n 0, 1) := by decide +kernel
theorem d_M_text_26 : decode prog_14_method_24_code 26 = .ok (.iconst 0, 1) := by decide +kernel
theorem d_M_text_27 : decode prog_14_method_24_code 27 = .ok (.putfield 135, 3) := by decide +kernel
theorem d_M_text_30 : decode prog_14_method_24_code 30 = .ok (.aload_n 0, 1) := by decide +kernel
theorem d_M_text_31 : decode prog_14_method_24_code 31 = .ok (.iconst 0, 1) := by decide +kernel
theorem d_M_text_32 : decode prog_14_method_24_code 32 = .ok (.putfield 138, 3) := by decide +kernel
theorem d_M_text_35 : decode prog_14_method_24_code 35 = .ok (.aload_n 0, 1) := by decide +kernel
theorem d_M_text_36 : decode prog_14_method_24_code 36 = .ok (.iconst 0, 1) := by decide +kernel
theorem d_M_text_37 : decode prog_14_method_24_code 37 = .ok (.putfield 178, 3) := by decide +kernel
theorem d_M_text_40 : decode prog_14_method_24_code 40 = .ok (.aload_n 0, 1) := by decide +kernel
theorem d_M_text_41 : decode prog_14_method_24_code 41 = .ok (.iconst (-1), 1) := by decide +kernel
theorem d_M_text_42 : decode prog_14_method_24_code 42 = .ok (.putfield 181, 3) := by decide +kernel
theorem d_M_text_45 : decode prog_14_method_24_code 45 = .ok (.aload_n 0, 1) := by decide +kernel
theorem d_M_text_46 : decode prog_14_method_24_code 46 = .ok (.iconst 0, 1) := by decide +kernel
theorem d_M_text_47 : decode prog_14_method_24_code 47 = .ok (.putfield 220, 3) := by decide +kernel
theorem d_M_text_50 : decode prog_14_method_24_code 50 = .ok (.aload_n 0, 1) := by decide +kernel
theorem d_M_text_51 : decode prog_14_method_24_code 51 = .ok (.iconst 0, 1) := by decide +kernel
theorem d_M_text_52 : decode prog_14_method_24_code 52 = .ok (.putfield 214, 3) := by decide +kernel
theorem d_M_text_55 : decode prog_14_method_24_code 55 = .ok (.aload_n 0, 1) := by decide +kernel
theorem d_M_text_56 : decode prog_14_method_24_code 56 = .ok (.iconst 0, 1) := by decide +kernel
theorem d_M_text_57 : decode prog_14_method_24_code 57 = .ok (.putfield 191, 3) := by decide +kernel
theorem d_M_text_60 : decode prog_14_method_24_code 60 = .ok (.aload_n 0, 1) := by decide +kernel
theorem d_M_text_61 : decode prog_14_method_24_code 61 = .ok (.iconst 0, 1) := by decide +kernel
theorem d_M_text_62 : decode prog_14_method_24_code 62 = .ok (.putfield 207, 3) := by decide +kernel
theorem d_M_text_65 : decode prog_14_method_24_code 65 = .ok (.aload_n 0, 1) := by decide +kernel
theorem d_M_text_66 : decode prog_14_method_24_code 66 = .ok (.iconst 0, 1) := by decide +kernel
theorem d_M_text_67 : decode prog_14_method_24_code 67 = .ok (.putfield 204, 3) := by decide +kernel
theorem d_M_text_70 : decode prog_14_method_24_code 70 = .ok (.aload_n 0, 1) := by decide +kernel
theorem d_M_text_71 : decode prog_14_method_24_code 71 = .ok (.getfield 26, 3) := by decide +kernel
theorem d_M_text_74 : decode prog_14_method_24_code 74 = .ok (.bipush 9, 2) := by decide +kernel
theorem d_M_text_76 : decode prog_14_method_24_code 76 = .ok (.iconst 0, 1) := by decide +kernel
theorem d_M_text_77 : decode prog_14_method_24_code 77 = .ok (.iastore, 1) := by decide +kernel
theorem d_M_text_78 : decode prog_14_method_24_code 78 = .ok (.iconst 0, 1) := by decide +kernel
theorem d_M_text_79 : decode prog_14_method_24_code 79 = .ok (.istore_n 2, 1) := by decide +kernel
theorem d_M_text_80 : decode prog_14_method_24_code 80 = .ok (.iload_n 2, 1) := by decide +kernel
theorem d_M_text_81 : decode prog_14_method_24_code 81 = .ok (.bipush 6, 2) := by decide +kernel
theorem d_M_text_83 : decode prog_14_method_24_code 83 = .ok (.if_icmp .ge 19, 3) := by decide +kernel
theorem d_M_text_86 : decode prog_14_method_24_code 86 = .ok (.aload_n 0, 1) := by decide +kernel
theorem d_M_text_87 : decode prog_14_method_24_code 87 = .ok (.getfield 29, 3) := by decide +kernel
theorem d_M_text_90 : decode prog_14_method_24_code 90 = .ok (.bipush 6, 2) := by decide +kernel
theorem d_M_text_92 : decode prog_14_method_24_code 92 = .ok (.iload_n 2, 1) := by decide +kernel
theorem d_M_text_93 : decode prog_14_method_24_code 93 = .ok (.iadd, 1) := by decide +kernel
theorem d_M_text_94 : decode prog_14_method_24_code 94 = .ok (.iconst 1, 1) := by decide +kernel
theorem d_M_text_95 : decode prog_14_method_24_code 95 = .ok (.iastore, 1) := by decide +kernel
theorem d_M_text_96 : decode prog_14_method_24_code 96 = .ok (.iinc 2 1, 3) := by decide +kernel
theorem d_M_text_99 : decode prog_14_method_24_code 99 = .ok (.goto (-19), 3) := by decide +kernel
theorem d_M_text_102 : decode prog_14_method_24_code 102 = .ok (.aload_n 0, 1) := by decide +kernel
theorem d_M_text_103 : decode prog_14_method_24_code 103 = .ok (.invokevirtual 188, 3) := by decide +kernel
theorem d_M_text_106 : decode prog_14_method_24_code 106 = .ok (.aload_n 0, 1) := by decide +kernel
theorem d_M_text_107 : decode prog_14_method_24_code 107 = .ok (.getfield 178, 3) := by decide +kernel
theorem d_M_text_110 : decode prog_14_method_24_code 110 = .ok (.ifCond .ne 18, 3) := by decide +kernel
theorem d_M_text_113 : decode prog_14_method_24_code 113 = .ok (.aload_n 0, 1) := by decide +kernel
theorem d_M_text_114 : decode prog_14_method_24_code 114 = .ok (.getfield 151, 3) := by decide +kernel
theorem d_M_text_117 : decode prog_14_method_24_code 117 = .ok (.iconst 3, 1) := by decide +kernel
theorem d_M_text_118 : decode prog_14_method_24_code 118 = .ok (.if_icmp .eq 10, 3) := by decide +kernel
theorem d_M_text_121 : decode prog_14_method_24_code 121 = .ok (.aload_n 0, 1) := by decide +kernel
theorem d_M_text_122 : decode prog_14_method_24_code 122 = .ok (.invokevirtual 255, 3) := by decide +kernel
theorem d_M_text_125 : decode prog_14_method_24_code 125 = .ok (.goto (-19), 3) := by decide +kernel
theorem d_M_text_128 : decode prog_14_method_24_code 128 = .ok (.aload_n 0, 1) := by decide +kernel
theorem d_M_text_129 : decode prog_14_method_24_code 129 = .ok (.aload_n 0, 1) := by decide +kernel
theorem d_M_text_130 : decode prog_14_method_24_code 130 = .ok (.getfield 178, 3) := by decide +kernel
theorem d_M_text_133 : decode prog_14_method_24_code 133 = .ok (.putfield 258, 3) := by decide +kernel
theorem d_M_text_136 : decode prog_14_method_24_code 136 = .ok (.aload_n 0, 1) := by decide +kernel
theorem d_M_text_137 : decode prog_14_method_24_code 137 = .ok (.aload_n 0, 1) := by decide +kernel
theorem d_M_text_138 : decode prog_14_method_24_code 138 = .ok (.getfield 181, 3) := by decide +kernel
theorem d_M_text_141 : decode prog_14_method_24_code 141 = .ok (.putfield 32, 3) := by decide +kernel
theorem d_M_text_144 : decode prog_14_method_24_code 144 = .ok (.aload_n 0, 1) := by decide +kernel
theorem d_M_text_145 : decode prog_14_method_24_code 145 = .ok (.getfield 178, 3) := by decide +kernel
theorem d_M_text_148 : decode prog_14_method_24_code 148 = .ok (.ifCond .eq 5, 3) := by decide +kernel
theorem d_M_text_153 : decode prog_14_method_24_code 153 = .ok (.iconst 0, 1) := by decide +kernel
theorem d_M_text_154 : decode prog_14_method_24_code 154 = .ok (.istore_n 2, 1) := by decide +kernel
theorem d_M_text_155 : decode prog_14_method_24_code 155 = .ok (.iload_n 2, 1) := by decide +kernel
theorem d_M_text_156 : decode prog_14_method_24_code 156 = .ok (.bipush 64, 2) := by decide +kernel
theorem d_M_text_158 : decode prog_14_method_24_code 158 = .ok (.if_icmp .ge 39, 3) := by decide +kernel
theorem d_M_text_161 : decode prog_14_method_24_code 161 = .ok (.aload_n 0, 1) := by decide +kernel
theorem d_M_text_162 : decode prog_14_method_24_code 162 = .ok (.getfield 13, 3) := by decide +kernel
theorem d_M_text_165 : decode prog_14_method_24_code 165 = .ok (.iload_n 2, 1) := by decide +kernel
theorem d_M_text_166 : decode prog_14_method_24_code 166 = .ok (.aload_n 0, 1) := by decide +kernel
theorem d_M_text_167 : decode prog_14_method_24_code 167 = .ok (.getfield 13, 3) := by decide +kernel
theorem d_M_text_170 : decode prog_14_method_24_code 170 = .ok (.bipush 64, 2) := by decide +kernel
theorem d_M_text_172 : decode prog_14_method_24_code 172 = .ok (.iload_n 2, 1) := by decide +kernel
theorem d_M_text_173 : decode prog_14_method_24_code 173 = .ok (.iadd, 1) := by decide +kernel
theorem d_M_text_174 : decode prog_14_method_24_code 174 = .ok (.iaload, 1) := by decide +kernel
theorem d_M_text_175 : decode prog_14_method_24_code 175 = .ok (.iastore, 1) := by decide +kernel
theorem d_M_text_176 : decode prog_14_method_24_code 176 = .ok (.aload_n 0, 1) := by decide +kernel
theorem d_M_text_177 : decode prog_14_method_24_code 177 = .ok (.getfield 16, 3) := by decide +kernel
theorem d_M_text_180 : decode prog_14_method_24_code 180 = .ok (.iload_n 2, 1) := by decide +kernel
theorem d_M_text_181 : decode prog_14_method_24_code 181 = .ok (.aload_n 0, 1) := by decide +kernel
theorem d_M_text_182 : decode prog_14_method_24_code 182 = .ok (.getfield 16, 3) := by decide +kernel
theorem d_M_text_185 : decode prog_14_method_24_code 185 = .ok (.bipush 64, 2) := by decide +kernel
theorem d_M_text_187 : decode prog_14_method_24_code 187 = .ok (.iload_n 2, 1) := by decide +kernel
theorem d_M_text_188 : decode prog_14_method_24_code 188 = .ok (.iadd, 1) := by decide +kernel
theorem d_M_text_189 : decode prog_14_method_24_code 189 = .ok (.iaload, 1) := by decide +kernel
theorem d_M_text_190 : decode prog_14_method_24_code 190 = .ok (.iastore, 1) := by decide +kernel
theorem d_M_text_191 : decode prog_14_method_24_code 191 = .ok (.iinc 2 1, 3) := by decide +kernel
theorem d_M_text_194 : decode prog_14_method_24_code 194 = .ok (.goto (-39), 3) := by decide +kernel
theorem d_M_text_197 : decode prog_14_method_24_code 197 = .ok (.iconst 0, 1) := by decide +kernel
theorem d_M_text_198 : decode prog_14_method_24_code 198 = .ok (.istore_n 2, 1) := by decide +kernel
theorem d_M_text_199 : decode prog_14_method_24_code 199 = .ok (.iload_n 2, 1) := by decide +kernel
theorem d_M_text_200 : decode prog_14_method_24_code 200 = .ok (.bipush 9, 2) := by decide +kernel
theorem d_M_text_202 : decode prog_14_method_24_code 202 = .ok (.if_icmp .ge 54, 3) := by decide +kernel
theorem d_M_text_205 : decode prog_14_method_24_code 205 = .ok (.aload_n 0, 1) := by decide +kernel
theorem d_M_text_206 : decode prog_14_method_24_code 206 = .ok (.getfield 19, 3) := by decide +kernel
theorem d_M_text_209 : decode prog_14_method_24_code 209 = .ok (.iload_n 2, 1) := by decide +kernel
theorem d_M_text_210 : decode prog_14_method_24_code 210 = .ok (.aload_n 0, 1) := by decide +kernel
theorem d_M_text_211 : decode prog_14_method_24_code 211 = .ok (.getfield 19, 3) := by decide +kernel
theorem d_M_text_214 : decode prog_14_method_24_code 214 = .ok (.bipush 9, 2) := by decide +kernel
theorem d_M_text_216 : decode prog_14_method_24_code 216 = .ok (.iload_n 2, 1) := by decide +kernel
theorem d_M_text_217 : decode prog_14_method_24_code 217 = .ok (.iadd, 1) := by decide +kernel
theorem d_M_text_218 : decode prog_14_method_24_code 218 = .ok (.baload, 1) := by decide +kernel
theorem d_M_text_219 : decode prog_14_method_24_code 219 = .ok (.bastore, 1) := by decide +kernel
theorem d_M_text_220 : decode prog_14_method_24_code 220 = .ok (.aload_n 0, 1) := by decide +kernel
theorem d_M_text_221 : decode prog_14_method_24_code 221 = .ok (.getfield 23, 3) := by decide +kernel
theorem d_M_text_224 : decode prog_14_method_24_code 224 = .ok (.iload_n 2, 1) := by decide +kernel
theorem d_M_text_225 : decode prog_14_method_24_code 225 = .ok (.aload_n 0, 1) := by decide +kernel
theorem d_M_text_226 : decode prog_14_method_24_code 226 = .ok (.getfield 23, 3) := by decide +kernel
theorem d_M_text_229 : decode prog_14_method_24_code 229 = .ok (.bipush 9, 2) := by decide +kernel
theorem d_M_text_231 : decode prog_14_method_24_code 231 = .ok (.iload_n 2, 1) := by decide +kernel
theorem d_M_text_232 : decode prog_14_method_24_code 232 = .ok (.iadd, 1) := by decide +kernel
theorem d_M_text_233 : decode prog_14_method_24_code 233 = .ok (.iaload, 1) := by decide +kernel
theorem d_M_text_234 : decode prog_14_method_24_code 234 = .ok (.iastore, 1) := by decide +kernel
theorem d_M_text_235 : decode prog_14_method_24_code 235 = .ok (.aload_n 0, 1) := by decide +kernel
theorem d_M_text_236 : decode prog_14_method_24_code 236 = .ok (.getfield 26, 3) := by decide +kernel
theorem d_M_text_239 : decode prog_14_method_24_code 239 = .ok (.iload_n 2, 1) := by decide +kernel
theorem d_M_text_240 : decode prog_14_method_24_code 240 = .ok (.aload_n 0, 1) := by decide +kernel
theorem d_M_text_241 : decode prog_14_method_24_code 241 = .ok (.getfield 26, 3) := by decide +kernel
theorem d_M_text_244 : decode prog_14_method_24_code 244 = .ok (.bipush 9, 2) := by decide +kernel
theorem d_M_text_246 : decode prog_14_method_24_code 246 = .ok (.iload_n 2, 1) := by decide +kernel
theorem d_M_text_247 : decode prog_14_method_24_code 247 = .ok (.iadd, 1) := by decide +kernel
theorem d_M_text_248 : decode prog_14_method_24_code 248 = .ok (.iaload, 1) := by decide +kernel
theorem d_M_text_249 : decode prog_14_method_24_code 249 = .ok (.iastore, 1) := by decide +kernel
theorem d_M_text_250 : decode prog_14_method_24_code 250 = .ok (.iinc 2 1, 3) := by decide +kernel
theorem d_M_text_253 : decode prog_14_method_24_code 253 = .ok (.goto (-54), 3) := by decide +kernel
theorem d_M_text_256 : decode prog_14_method_24_code 256 = .ok (.iconst 0, 1) := by decide +kernel
theorem d_M_text_257 : decode prog_14_method_24_code 257 = .ok (.istore_n 2, 1) := by decide +kernel
theorem d_M_text_258 : decode prog_14_method_24_code 258 = .ok (.iload_n 2, 1) := by decide +kernel
theorem d_M_text_259 : decode prog_14_method_24_code 259 = .ok (.bipush 6, 2) := by decide +kernel
theorem d_M_text_261 : decode prog_14_method_24_code 261 = .ok (.if_icmp .ge 24, 3) := by decide +kernel
theorem d_M_text_264 : decode prog_14_method_24_code 264 = .ok (.aload_n 0, 1) := by decide +kernel
theorem d_M_text_265 : decode prog_14_method_24_code 265 = .ok (.getfield 29, 3) := by decide +kernel
theorem d_M_text_268 : decode prog_14_method_24_code 268 = .ok (.iload_n 2, 1) := by decide +kernel
theorem d_M_text_269 : decode prog_14_method_24_code 269 = .ok (.aload_n 0, 1) := by decide +kernel
theorem d_M_text_270 : decode prog_14_method_24_code 270 = .ok (.getfield 29, 3) := by decide +kernel
theorem d_M_text_273 : decode prog_14_method_24_code 273 = .ok (.bipush 6, 2) := by decide +kernel
theorem d_M_text_275 : decode prog_14_method_24_code 275 = .ok (.iload_n 2, 1) := by decide +kernel
theorem d_M_text_276 : decode prog_14_method_24_code 276 = .ok (.iadd, 1) := by decide +kernel
theorem d_M_text_277 : decode prog_14_method_24_code 277 = .ok (.iaload, 1) := by decide +kernel
theorem d_M_text_278 : decode prog_14_method_24_code 278 = .ok (.iastore, 1) := by decide +kernel
theorem d_M_text_279 : decode prog_14_method_24_code 279 = .ok (.iinc 2 1, 3) := by decide +kernel
theorem d_M_text_282 : decode prog_14_method_24_code 282 = .ok (.goto (-24), 3) := by decide +kernel
theorem d_M_text_285 : decode prog_14_method_24_code 285 = .ok (.aload_n 0, 1) := by decide +kernel
theorem d_M_text_286 : decode prog_14_method_24_code 286 = .ok (.aload_n 0, 1) := by decide +kernel
theorem d_M_text_287 : decode prog_14_method_24_code 287 = .ok (.getfield 191, 3) := by decide +kernel
theorem d_M_text_290 : decode prog_14_method_24_code 290 = .ok (.putfield 261, 3) := by decide +kernel
theorem d_M_text_293 : decode prog_14_method_24_code 293 = .ok (.aload_n 0, 1) := by decide +kernel
theorem d_M_text_294 : decode prog_14_method_24_code 294 = .ok (.aload_n 0, 1) := by decide +kernel
theorem d_M_text_295 : decode prog_14_method_24_code 295 = .ok (.getfield 220, 3) := by decide +kernel
theorem d_M_text_298 : decode prog_14_method_24_code 298 = .ok (.putfield 264, 3) := by decide +kernel
theorem d_M_text_301 : decode prog_14_method_24_code 301 = .ok (.aload_n 0, 1) := by decide +kernel
theorem d_M_text_302 : decode prog_14_method_24_code 302 = .ok (.getfield 204, 3) := by decide +kernel
theorem d_M_text_305 : decode prog_14_method_24_code 305 = .ok (.ireturn, 1) := by decide +kernel
theorem d_M_text_151 : decode prog_14_method_24_code 151 = .ok (.iconst (-1), 1) := by decide +kernel
theorem d_M_text_152 : decode prog_14_method_24_code 152 = .ok (.ireturn, 1) := by decide +kernel
theorem d_M_fault_0 : decode prog_14_method_25_code 0 = .ok (.aload_n 0, 1) := by decide +kernel
theorem d_M_fault_1 : decode prog_14_method_25_code 1 = .ok (.iconst 0, 1) := by decide +kernel
theorem d_M_fault_2 : decode prog_14_method_25_code 2 = .ok (.putfield 132, 3) := by decide +kernel
theorem d_M_fault_5 : decode prog_14_method_25_code 5 = .ok (.iload_n 1, 1) := by decide +kernel
theorem d_M_fault_6 : decode prog_14_method_25_code 6 = .ok (.ifCond .ne 10, 3) := by decide +kernel
theorem d_M_fault_16 : decode prog_14_method_25_code 16 = .ok (.iload_n 1, 1) := by decide +kernel
theorem d_M_fault_17 : decode prog_14_method_25_code 17 = .ok (.iconst 1, 1) := by decide +kernel
theorem d_M_fault_18 : decode prog_14_method_25_code 18 = .ok (.if_icmp .ne 10, 3) := by decide +kernel
theorem d_M_fault_28 : decode prog_14_method_25_code 28 = .ok (.iconst (-1), 1) := by decide +kernel
theorem d_M_fault_29 : decode prog_14_method_25_code 29 = .ok (.ireturn, 1) := by decide +kernel
theorem d_M_fault_21 : decode prog_14_method_25_code 21 = .ok (.aload_n 0, 1) := by decide +kernel
theorem d_M_fault_22 : decode prog_14_method_25_code 22 = .ok (.getfield 32, 3) := by decide +kernel
theorem d_M_fault_25 : decode prog_14_method_25_code 25 = .ok (.goto 4, 3) := by decide +kernel
theorem d_M_fault_9 : decode prog_14_method_25_code 9 = .ok (.aload_n 0, 1) := by decide +kernel
theorem d_M_fault_10 : decode prog_14_method_25_code 10 = .ok (.getfield 258, 3) := by decide +kernel
theorem d_M_fault_13 : decode prog_14_method_25_code 13 = .ok (.goto 16, 3) := by decide +kernel
theorem d_M_is_0 : decode prog_14_method_26_code 0 = .ok (.iload_n 0, 1) := by decide +kernel
theorem d_M_is_1 : decode prog_14_method_26_code 1 = .ok (.ifCond .eq 7, 3) := by decide +kernel
theorem d_M_is_8 : decode prog_14_method_26_code 8 = .ok (.iconst 0, 1) := by decide +kernel
theorem d_M_is_9 : decode prog_14_method_26_code 9 = .ok (.ireturn, 1) := by decide +kernel
theorem d_M_is_4 : decode prog_14_method_26_code 4 = .ok (.iconst 1, 1) := by decide +kernel
theorem d_M_is_5 : decode prog_14_method_26_code 5 = .ok (.goto 4, 3) := by decide +kernel
theorem d_M_does_0 : decode prog_14_method_27_code 0 = .ok (.iload_n 1, 1) := by decide +kernel
theorem d_M_does_1 : decode prog_14_method_27_code 1 = .ok (.sipush 260, 3) := by decide +kernel
theorem d_M_does_4 : decode prog_14_method_27_code 4 = .ok (.if_icmp .ne 37, 3) := by decide +kernel
theorem d_M_does_41 : decode prog_14_method_27_code 41 = .ok (.aload_n 0, 1) := by decide +kernel
theorem d_M_does_42 : decode prog_14_method_27_code 42 = .ok (.dup, 1) := by decide +kernel
theorem d_M_does_43 : decode prog_14_method_27_code 43 = .ok (.getfield 267, 3) := by decide +kernel
theorem d_M_does_46 : decode prog_14_method_27_code 46 = .ok (.iconst 1, 1) := by decide +kernel
theorem d_M_does_47 : decode prog_14_method_27_code 47 = .ok (.isub, 1) := by decide +kernel
theorem d_M_does_48 : decode prog_14_method_27_code 48 = .ok (.putfield 267, 3) := by decide +kernel
theorem d_M_does_51 : decode prog_14_method_27_code 51 = .ok (.aload_n 0, 1) := by decide +kernel
theorem d_M_does_52 : decode prog_14_method_27_code 52 = .ok (.getfield 42, 3) := by decide +kernel
theorem d_M_does_55 : decode prog_14_method_27_code 55 = .ok (.aload_n 0, 1) := by decide +kernel
theorem d_M_does_56 : decode prog_14_method_27_code 56 = .ok (.getfield 267, 3) := by decide +kernel
theorem d_M_does_59 : decode prog_14_method_27_code 59 = .ok (.iconst 1, 1) := by decide +kernel
theorem d_M_does_60 : decode prog_14_method_27_code 60 = .ok (.isub, 1) := by decide +kernel
theorem d_M_does_61 : decode prog_14_method_27_code 61 = .ok (.iaload, 1) := by decide +kernel
theorem d_M_does_62 : decode prog_14_method_27_code 62 = .ok (.istore_n 2, 1) := by decide +kernel
theorem d_M_does_63 : decode prog_14_method_27_code 63 = .ok (.aload_n 0, 1) := by decide +kernel
theorem d_M_does_64 : decode prog_14_method_27_code 64 = .ok (.getfield 42, 3) := by decide +kernel
theorem d_M_does_67 : decode prog_14_method_27_code 67 = .ok (.aload_n 0, 1) := by decide +kernel
theorem d_M_does_68 : decode prog_14_method_27_code 68 = .ok (.getfield 267, 3) := by decide +kernel
theorem d_M_does_71 : decode prog_14_method_27_code 71 = .ok (.iaload, 1) := by decide +kernel
theorem d_M_does_72 : decode prog_14_method_27_code 72 = .ok (.istore_n 3, 1) := by decide +kernel
theorem d_M_does_73 : decode prog_14_method_27_code 73 = .ok (.aload_n 0, 1) := by decide +kernel
theorem d_M_does_74 : decode prog_14_method_27_code 74 = .ok (.getfield 42, 3) := by decide +kernel
theorem d_M_does_77 : decode prog_14_method_27_code 77 = .ok (.aload_n 0, 1) := by decide +kernel
theorem d_M_does_78 : decode prog_14_method_27_code 78 = .ok (.getfield 267, 3) := by decide +kernel
theorem d_M_does_81 : decode prog_14_method_27_code 81 = .ok (.iconst 1, 1) := by decide +kernel
theorem d_M_does_82 : decode prog_14_method_27_code 82 = .ok (.isub, 1) := by decide +kernel
theorem d_M_does_83 : decode prog_14_method_27_code 83 = .ok (.iload_n 1, 1) := by decide +kernel
theorem d_M_does_84 : decode prog_14_method_27_code 84 = .ok (.sipush 262, 3) := by decide +kernel
theorem d_M_does_87 : decode prog_14_method_27_code 87 = .ok (.if_icmp .ne 22, 3) := by decide +kernel
theorem d_M_does_109 : decode prog_14_method_27_code 109 = .ok (.iload_n 1, 1) := by decide +kernel
theorem d_M_does_110 : decode prog_14_method_27_code 110 = .ok (.sipush 261, 3) := by decide +kernel
theorem d_M_does_113 : decode prog_14_method_27_code 113 = .ok (.if_icmp .ne 22, 3) := by decide +kernel
theorem d_M_does_135 : decode prog_14_method_27_code 135 = .ok (.iload_n 1, 1) := by decide +kernel
theorem d_M_does_136 : decode prog_14_method_27_code 136 = .ok (.bipush 60, 2) := by decide +kernel
theorem d_M_does_138 : decode prog_14_method_27_code 138 = .ok (.if_icmp .ne 19, 3) := by decide +kernel
theorem d_M_does_157 : decode prog_14_method_27_code 157 = .ok (.iload_n 1, 1) := by decide +kernel
theorem d_M_does_158 : decode prog_14_method_27_code 158 = .ok (.sipush 256, 3) := by decide +kernel
theorem d_M_does_161 : decode prog_14_method_27_code 161 = .ok (.if_icmp .ne 19, 3) := by decide +kernel
theorem d_M_does_180 : decode prog_14_method_27_code 180 = .ok (.iload_n 1, 1) := by decide +kernel
theorem d_M_does_181 : decode prog_14_method_27_code 181 = .ok (.bipush 61, 2) := by decide +kernel
theorem d_M_does_183 : decode prog_14_method_27_code 183 = .ok (.if_icmp .ne 19, 3) := by decide +kernel
theorem d_M_does_202 : decode prog_14_method_27_code 202 = .ok (.iload_n 1, 1) := by decide +kernel
theorem d_M_does_203 : decode prog_14_method_27_code 203 = .ok (.sipush 257, 3) := by decide +kernel
theorem d_M_does_206 : decode prog_14_method_27_code 206 = .ok (.if_icmp .ne 19, 3) := by decide +kernel
theorem d_M_does_225 : decode prog_14_method_27_code 225 = .ok (.iload_n 1, 1) := by decide +kernel
theorem d_M_does_226 : decode prog_14_method_27_code 226 = .ok (.sipush 258, 3) := by decide +kernel
theorem d_M_does_229 : decode prog_14_method_27_code 229 = .ok (.if_icmp .ne 19, 3) := by decide +kernel
theorem d_M_does_248 : decode prog_14_method_27_code 248 = .ok (.iload_n 1, 1) := by decide +kernel
theorem d_M_does_249 : decode prog_14_method_27_code 249 = .ok (.bipush 62, 2) := by decide +kernel
theorem d_M_does_251 : decode prog_14_method_27_code 251 = .ok (.if_icmp .ne 19, 3) := by decide +kernel
theorem d_M_does_270 : decode prog_14_method_27_code 270 = .ok (.iload_n 1, 1) := by decide +kernel
theorem d_M_does_271 : decode prog_14_method_27_code 271 = .ok (.bipush 43, 2) := by decide +kernel
theorem d_M_does_273 : decode prog_14_method_27_code 273 = .ok (.if_icmp .ne 9, 3) := by decide +kernel
theorem d_M_does_282 : decode prog_14_method_27_code 282 = .ok (.iload_n 2, 1) := by decide +kernel
theorem d_M_does_283 : decode prog_14_method_27_code 283 = .ok (.iload_n 3, 1) := by decide +kernel
theorem d_M_does_284 : decode prog_14_method_27_code 284 = .ok (.isub, 1) := by decide +kernel
theorem d_M_does_285 : decode prog_14_method_27_code 285 = .ok (.iastore, 1) := by decide +kernel
theorem d_M_does_286 : decode prog_14_method_27_code 286 = .ok (.return_, 1) := by decide +kernel
theorem d_M_does_276 : decode prog_14_method_27_code 276 = .ok (.iload_n 2, 1) := by decide +kernel
theorem d_M_does_277 : decode prog_14_method_27_code 277 = .ok (.iload_n 3, 1) := by decide +kernel
theorem d_M_does_278 : decode prog_14_method_27_code 278 = .ok (.iadd, 1) := by decide +kernel
theorem d_M_does_279 : decode prog_14_method_27_code 279 = .ok (.goto 6, 3) := by decide +kernel
theorem d_M_does_254 : decode prog_14_method_27_code 254 = .ok (.iload_n 2, 1) := by decide +kernel
theorem d_M_does_255 : decode prog_14_method_27_code 255 = .ok (.iload_n 3, 1) := by decide +kernel
theorem d_M_does_256 : decode prog_14_method_27_code 256 = .ok (.if_icmp .le 7, 3) := by decide +kernel
theorem d_M_does_263 : decode prog_14_method_27_code 263 = .ok (.iconst 0, 1) := by decide +kernel
theorem d_M_does_264 : decode prog_14_method_27_code 264 = .ok (.invokestatic 270, 3) := by decide +kernel
theorem d_M_does_267 : decode prog_14_method_27_code 267 = .ok (.goto 18, 3) := by decide +kernel
theorem d_M_does_259 : decode prog_14_method_27_code 259 = .ok (.iconst 1, 1) := by decide +kernel
theorem d_M_does_260 : decode prog_14_method_27_code 260 = .ok (.goto 4, 3) := by decide +kernel
theorem d_M_does_232 : decode prog_14_method_27_code 232 = .ok (.iload_n 2, 1) := by decide +kernel
theorem d_M_does_233 : decode prog_14_method_27_code 233 = .ok (.iload_n 3, 1) := by decide +kernel
theorem d_M_does_234 : decode prog_14_method_27_code 234 = .ok (.if_icmp .lt 7, 3) := by decide +kernel
theorem d_M_does_241 : decode prog_14_method_27_code 241 = .ok (.iconst 0, 1) := by decide +kernel
theorem d_M_does_242 : decode prog_14_method_27_code 242 = .ok (.invokestatic 270, 3) := by decide +kernel
theorem d_M_does_245 : decode prog_14_method_27_code 245 = .ok (.goto 40, 3) := by decide +kernel
theorem d_M_does_237 : decode prog_14_method_27_code 237 = .ok (.iconst 1, 1) := by decide +kernel
theorem d_M_does_238 : decode prog_14_method_27_code 238 = .ok (.goto 4, 3) := by decide +kernel
theorem d_M_does_209 : decode prog_14_method_27_code 209 = .ok (.iload_n 2, 1) := by decide +kernel
theorem d_M_does_210 : decode prog_14_method_27_code 210 = .ok (.iload_n 3, 1) := by decide +kernel
theorem d_M_does_211 : decode prog_14_method_27_code 211 = .ok (.if_icmp .eq 7, 3) := by decide +kernel
theorem d_M_does_218 : decode prog_14_method_27_code 218 = .ok (.iconst 0, 1) := by decide +kernel
theorem d_M_does_219 : decode prog_14_method_27_code 219 = .ok (.invokestatic 270, 3) := by decide +kernel
theorem d_M_does_222 : decode prog_14_method_27_code 222 = .ok (.goto 63, 3) := by decide +kernel
theorem d_M_does_214 : decode prog_14_method_27_code 214 = .ok (.iconst 1, 1) := by decide +kernel
theorem d_M_does_215 : decode prog_14_method_27_code 215 = .ok (.goto 4, 3) := by decide +kernel
theorem d_M_does_186 : decode prog_14_method_27_code 186 = .ok (.iload_n 2, 1) := by decide +kernel
theorem d_M_does_187 : decode prog_14_method_27_code 187 = .ok (.iload_n 3, 1) := by decide +kernel
theorem d_M_does_188 : decode prog_14_method_27_code 188 = .ok (.if_icmp .ne 7, 3) := by decide +kernel
theorem d_M_does_195 : decode prog_14_method_27_code 195 = .ok (.iconst 0, 1) := by decide +kernel
theorem d_M_does_196 : decode prog_14_method_27_code 196 = .ok (.invokestatic 270, 3) := by decide +kernel
theorem d_M_does_199 : decode prog_14_method_27_code 199 = .ok (.goto 86, 3) := by decide +kernel
theorem d_M_does_191 : decode prog_14_method_27_code 191 = .ok (.iconst 1, 1) := by decide +kernel
theorem d_M_does_192 : decode prog_14_method_27_code 192 = .ok (.goto 4, 3) := by decide +kernel
theorem d_M_does_164 : decode prog_14_method_27_code 164 = .ok (.iload_n 2, 1) := by decide +kernel
theorem d_M_does_165 : decode prog_14_method_27_code 165 = .ok (.iload_n 3, 1) := by decide +kernel
theorem d_M_does_166 : decode prog_14_method_27_code 166 = .ok (.if_icmp .gt 7, 3) := by decide +kernel
theorem d_M_does_173 : decode prog_14_method_27_code 173 = .ok (.iconst 0, 1) := by decide +kernel
theorem d_M_does_174 : decode prog_14_method_27_code 174 = .ok (.invokestatic 270, 3) := by decide +kernel
theorem d_M_does_177 : decode prog_14_method_27_code 177 = .ok (.goto 108, 3) := by decide +kernel
theorem d_M_does_169 : decode prog_14_method_27_code 169 = .ok (.iconst 1, 1) := by decide +kernel
theorem d_M_does_170 : decode prog_14_method_27_code 170 = .ok (.goto 4, 3) := by decide +kernel
theorem d_M_does_141 : decode prog_14_method_27_code 141 = .ok (.iload_n 2, 1) := by decide +kernel
theorem d_M_does_142 : decode prog_14_method_27_code 142 = .ok (.iload_n 3, 1) := by decide +kernel
theorem d_M_does_143 : decode prog_14_method_27_code 143 = .ok (.if_icmp .ge 7, 3) := by decide +kernel
theorem d_M_does_150 : decode prog_14_method_27_code 150 = .ok (.iconst 0, 1) := by decide +kernel
theorem d_M_does_151 : decode prog_14_method_27_code 151 = .ok (.invokestatic 270, 3) := by decide +kernel
theorem d_M_does_154 : decode prog_14_method_27_code 154 = .ok (.goto 131, 3) := by decide +kernel
theorem d_M_does_146 : decode prog_14_method_27_code 146 = .ok (.iconst 1, 1) := by decide +kernel
theorem d_M_does_147 : decode prog_14_method_27_code 147 = .ok (.goto 4, 3) := by decide +kernel
theorem d_M_does_116 : decode prog_14_method_27_code 116 = .ok (.iload_n 2, 1) := by decide +kernel
theorem d_M_does_117 : decode prog_14_method_27_code 117 = .ok (.ifCond .eq 11, 3) := by decide +kernel
theorem d_M_does_128 : decode prog_14_method_27_code 128 = .ok (.iconst 0, 1) := by decide +kernel
theorem d_M_does_129 : decode prog_14_method_27_code 129 = .ok (.invokestatic 270, 3) := by decide +kernel
theorem d_M_does_132 : decode prog_14_method_27_code 132 = .ok (.goto 153, 3) := by decide +kernel
theorem d_M_does_120 : decode prog_14_method_27_code 120 = .ok (.iload_n 3, 1) := by decide +kernel
theorem d_M_does_121 : decode prog_14_method_27_code 121 = .ok (.ifCond .eq 7, 3) := by decide +kernel
theorem d_M_does_124 : decode prog_14_method_27_code 124 = .ok (.iconst 1, 1) := by decide +kernel
theorem d_M_does_125 : decode prog_14_method_27_code 125 = .ok (.goto 4, 3) := by decide +kernel
theorem d_M_does_90 : decode prog_14_method_27_code 90 = .ok (.iload_n 2, 1) := by decide +kernel
theorem d_M_does_91 : decode prog_14_method_27_code 91 = .ok (.ifCond .ne 7, 3) := by decide +kernel
theorem d_M_does_98 : decode prog_14_method_27_code 98 = .ok (.iconst 1, 1) := by decide +kernel
theorem d_M_does_99 : decode prog_14_method_27_code 99 = .ok (.goto 4, 3) := by decide +kernel
theorem d_M_does_103 : decode prog_14_method_27_code 103 = .ok (.invokestatic 270, 3) := by decide +kernel
theorem d_M_does_106 : decode prog_14_method_27_code 106 = .ok (.goto 179, 3) := by decide +kernel
theorem d_M_does_94 : decode prog_14_method_27_code 94 = .ok (.iload_n 3, 1) := by decide +kernel
theorem d_M_does_95 : decode prog_14_method_27_code 95 = .ok (.ifCond .eq 7, 3) := by decide +kernel
theorem d_M_does_102 : decode prog_14_method_27_code 102 = .ok (.iconst 0, 1) := by decide +kernel
theorem d_M_does_7 : decode prog_14_method_27_code 7 = .ok (.aload_n 0, 1) := by decide +kernel
theorem d_M_does_8 : decode prog_14_method_27_code 8 = .ok (.getfield 42, 3) := by decide +kernel
theorem d_M_does_11 : decode prog_14_method_27_code 11 = .ok (.aload_n 0, 1) := by decide +kernel
theorem d_M_does_12 : decode prog_14_method_27_code 12 = .ok (.getfield 267, 3) := by decide +kernel
theorem d_M_does_15 : decode prog_14_method_27_code 15 = .ok (.iconst 1, 1) := by decide +kernel
theorem d_M_does_16 : decode prog_14_method_27_code 16 = .ok (.isub, 1) := by decide +kernel
theorem d_M_does_17 : decode prog_14_method_27_code 17 = .ok (.aload_n 0, 1) := by decide +kernel
theorem d_M_does_18 : decode prog_14_method_27_code 18 = .ok (.getfield 42, 3) := by decide +kernel
theorem d_M_does_21 : decode prog_14_method_27_code 21 = .ok (.aload_n 0, 1) := by decide +kernel
theorem d_M_does_22 : decode prog_14_method_27_code 22 = .ok (.getfield 267, 3) := by decide +kernel
theorem d_M_does_25 : decode prog_14_method_27_code 25 = .ok (.iconst 1, 1) := by decide +kernel
theorem d_M_does_26 : decode prog_14_method_27_code 26 = .ok (.isub, 1) := by decide +kernel
theorem d_M_does_27 : decode prog_14_method_27_code 27 = .ok (.iaload, 1) := by decide +kernel
theorem d_M_does_28 : decode prog_14_method_27_code 28 = .ok (.ifCond .ne 7, 3) := by decide +kernel
theorem d_M_does_35 : decode prog_14_method_27_code 35 = .ok (.iconst 0, 1) := by decide +kernel
theorem d_M_does_36 : decode prog_14_method_27_code 36 = .ok (.invokestatic 270, 3) := by decide +kernel
theorem d_M_does_39 : decode prog_14_method_27_code 39 = .ok (.iastore, 1) := by decide +kernel
theorem d_M_does_40 : decode prog_14_method_27_code 40 = .ok (.return_, 1) := by decide +kernel
theorem d_M_does_31 : decode prog_14_method_27_code 31 = .ok (.iconst 1, 1) := by decide +kernel
theorem d_M_does_32 : decode prog_14_method_27_code 32 = .ok (.goto 4, 3) := by decide +kernel
theorem d_M_holdsE_0 : decode prog_14_method_28_code 0 = .ok (.aload_n 0, 1) := by decide +kernel
theorem d_M_holdsE_1 : decode prog_14_method_28_code 1 = .ok (.iconst 0, 1) := by decide +kernel
theorem d_M_holdsE_2 : decode prog_14_method_28_code 2 = .ok (.putfield 267, 3) := by decide +kernel
theorem d_M_holdsE_5 : decode prog_14_method_28_code 5 = .ok (.aload_n 0, 1) := by decide +kernel
theorem d_M_holdsE_6 : decode prog_14_method_28_code 6 = .ok (.getfield 26, 3) := by decide +kernel
theorem d_M_holdsE_9 : decode prog_14_method_28_code 9 = .ok (.iload_n 1, 1) := by decide +kernel
theorem d_M_holdsE_10 : decode prog_14_method_28_code 10 = .ok (.iaload, 1) := by decide +kernel
theorem d_M_holdsE_11 : decode prog_14_method_28_code 11 = .ok (.istore_n 2, 1) := by decide +kernel
theorem d_M_holdsE_12 : decode prog_14_method_28_code 12 = .ok (.iload_n 2, 1) := by decide +kernel
theorem d_M_holdsE_13 : decode prog_14_method_28_code 13 = .ok (.aload_n 0, 1) := by decide +kernel
theorem d_M_holdsE_14 : decode prog_14_method_28_code 14 = .ok (.getfield 26, 3) := by decide +kernel
theorem d_M_holdsE_17 : decode prog_14_method_28_code 17 = .ok (.iload_n 1, 1) := by decide +kernel
theorem d_M_holdsE_18 : decode prog_14_method_28_code 18 = .ok (.iconst 1, 1) := by decide +kernel
theorem d_M_holdsE_19 : decode prog_14_method_28_code 19 = .ok (.iadd, 1) := by decide +kernel
theorem d_M_holdsE_20 : decode prog_14_method_28_code 20 = .ok (.iaload, 1) := by decide +kernel
theorem d_M_holdsE_21 : decode prog_14_method_28_code 21 = .ok (.if_icmp .ge 80, 3) := by decide +kernel
theorem d_M_holdsE_24 : decode prog_14_method_28_code 24 = .ok (.aload_n 0, 1) := by decide +kernel
theorem d_M_holdsE_25 : decode prog_14_method_28_code 25 = .ok (.getfield 13, 3) := by decide +kernel
theorem d_M_holdsE_28 : decode prog_14_method_28_code 28 = .ok (.iload_n 2, 1) := by decide +kernel
theorem d_M_holdsE_29 : decode prog_14_method_28_code 29 = .ok (.iaload, 1) := by decide +kernel
theorem d_M_holdsE_30 : decode prog_14_method_28_code 30 = .ok (.iconst 2, 1) := by decide +kernel
theorem d_M_holdsE_31 : decode prog_14_method_28_code 31 = .ok (.if_icmp .ne 16, 3) := by decide +kernel
theorem d_M_holdsE_47 : decode prog_14_method_28_code 47 = .ok (.aload_n 0, 1) := by decide +kernel
theorem d_M_holdsE_48 : decode prog_14_method_28_code 48 = .ok (.getfield 42, 3) := by decide +kernel
theorem d_M_holdsE_51 : decode prog_14_method_28_code 51 = .ok (.aload_n 0, 1) := by decide +kernel
theorem d_M_holdsE_52 : decode prog_14_method_28_code 52 = .ok (.getfield 267, 3) := by decide +kernel
theorem d_M_holdsE_55 : decode prog_14_method_28_code 55 = .ok (.aload_n 0, 1) := by decide +kernel
theorem d_M_holdsE_56 : decode prog_14_method_28_code 56 = .ok (.getfield 13, 3) := by decide +kernel
theorem d_M_holdsE_59 : decode prog_14_method_28_code 59 = .ok (.iload_n 2, 1) := by decide +kernel
theorem d_M_holdsE_60 : decode prog_14_method_28_code 60 = .ok (.iaload, 1) := by decide +kernel
theorem d_M_holdsE_61 : decode prog_14_method_28_code 61 = .ok (.ifCond .ne 12, 3) := by decide +kernel
theorem d_M_holdsE_73 : decode prog_14_method_28_code 73 = .ok (.aload_n 0, 1) := by decide +kernel
theorem d_M_holdsE_74 : decode prog_14_method_28_code 74 = .ok (.getfield 39, 3) := by decide +kernel
theorem d_M_holdsE_77 : decode prog_14_method_28_code 77 = .ok (.aload_n 0, 1) := by decide +kernel
theorem d_M_holdsE_78 : decode prog_14_method_28_code 78 = .ok (.getfield 16, 3) := by decide +kernel
theorem d_M_holdsE_81 : decode prog_14_method_28_code 81 = .ok (.iload_n 2, 1) := by decide +kernel
theorem d_M_holdsE_82 : decode prog_14_method_28_code 82 = .ok (.iaload, 1) := by decide +kernel
theorem d_M_holdsE_83 : decode prog_14_method_28_code 83 = .ok (.iaload, 1) := by decide +kernel
theorem d_M_holdsE_84 : decode prog_14_method_28_code 84 = .ok (.iastore, 1) := by decide +kernel
theorem d_M_holdsE_85 : decode prog_14_method_28_code 85 = .ok (.aload_n 0, 1) := by decide +kernel
theorem d_M_holdsE_86 : decode prog_14_method_28_code 86 = .ok (.dup, 1) := by decide +kernel
theorem d_M_holdsE_87 : decode prog_14_method_28_code 87 = .ok (.getfield 267, 3) := by decide +kernel
theorem d_M_holdsE_90 : decode prog_14_method_28_code 90 = .ok (.iconst 1, 1) := by decide +kernel
theorem d_M_holdsE_91 : decode prog_14_method_28_code 91 = .ok (.iadd, 1) := by decide +kernel
theorem d_M_holdsE_92 : decode prog_14_method_28_code 92 = .ok (.putfield 267, 3) := by decide +kernel
theorem d_M_holdsE_95 : decode prog_14_method_28_code 95 = .ok (.iinc 2 1, 3) := by decide +kernel
theorem d_M_holdsE_98 : decode prog_14_method_28_code 98 = .ok (.goto (-86), 3) := by decide +kernel
theorem d_M_holdsE_64 : decode prog_14_method_28_code 64 = .ok (.aload_n 0, 1) := by decide +kernel
theorem d_M_holdsE_65 : decode prog_14_method_28_code 65 = .ok (.getfield 16, 3) := by decide +kernel
theorem d_M_holdsE_68 : decode prog_14_method_28_code 68 = .ok (.iload_n 2, 1) := by decide +kernel
theorem d_M_holdsE_69 : decode prog_14_method_28_code 69 = .ok (.iaload, 1) := by decide +kernel
theorem d_M_holdsE_70 : decode prog_14_method_28_code 70 = .ok (.goto 14, 3) := by decide +kernel
theorem d_M_holdsE_34 : decode prog_14_method_28_code 34 = .ok (.aload_n 0, 1) := by decide +kernel
theorem d_M_holdsE_35 : decode prog_14_method_28_code 35 = .ok (.aload_n 0, 1) := by decide +kernel
theorem d_M_holdsE_36 : decode prog_14_method_28_code 36 = .ok (.getfield 16, 3) := by decide +kernel
theorem d_M_holdsE_39 : decode prog_14_method_28_code 39 = .ok (.iload_n 2, 1) := by decide +kernel
theorem d_M_holdsE_40 : decode prog_14_method_28_code 40 = .ok (.iaload, 1) := by decide +kernel
theorem d_M_holdsE_41 : decode prog_14_method_28_code 41 = .ok (.invokevirtual 274, 3) := by decide +kernel
theorem d_M_holdsE_44 : decode prog_14_method_28_code 44 = .ok (.goto 51, 3) := by decide +kernel
theorem d_M_holdsE_101 : decode prog_14_method_28_code 101 = .ok (.aload_n 0, 1) := by decide +kernel
theorem d_M_holdsE_102 : decode prog_14_method_28_code 102 = .ok (.getfield 42, 3) := by decide +kernel
theorem d_M_holdsE_105 : decode prog_14_method_28_code 105 = .ok (.iconst 0, 1) := by decide +kernel
theorem d_M_holdsE_106 : decode prog_14_method_28_code 106 = .ok (.iaload, 1) := by decide +kernel
theorem d_M_holdsE_107 : decode prog_14_method_28_code 107 = .ok (.ifCond .eq 7, 3) := by decide +kernel
theorem d_M_holdsE_114 : decode prog_14_method_28_code 114 = .ok (.iconst 0, 1) := by decide +kernel
theorem d_M_holdsE_115 : decode prog_14_method_28_code 115 = .ok (.ireturn, 1) := by decide +kernel
theorem d_M_holdsE_110 : decode prog_14_method_28_code 110 = .ok (.iconst 1, 1) := by decide +kernel
theorem d_M_holdsE_111 : decode prog_14_method_28_code 111 = .ok (.goto 4, 3) := by decide +kernel
theorem d_M_isWriter_0 : decode prog_14_method_29_code 0 = .ok (.iload_n 0, 1) := by decide +kernel
theorem d_M_isWriter_1 : decode prog_14_method_29_code 1 = .ok (.ifCond .lt 13, 3) := by decide +kernel
theorem d_M_isWriter_14 : decode prog_14_method_29_code 14 = .ok (.iconst 0, 1) := by decide +kernel
theorem d_M_isWriter_15 : decode prog_14_method_29_code 15 = .ok (.ireturn, 1) := by decide +kernel
theorem d_M_isWriter_4 : decode prog_14_method_29_code 4 = .ok (.iload_n 0, 1) := by decide +kernel
theorem d_M_isWriter_5 : decode prog_14_method_29_code 5 = .ok (.bipush 6, 2) := by decide +kernel
theorem d_M_isWriter_7 : decode prog_14_method_29_code 7 = .ok (.if_icmp .ge 7, 3) := by decide +kernel
theorem d_M_isWriter_10 : decode prog_14_method_29_code 10 = .ok (.iconst 1, 1) := by decide +kernel
theorem d_M_isWriter_11 : decode prog_14_method_29_code 11 = .ok (.goto 4, 3) := by decide +kernel
theorem d_M_isLetter_0 : decode prog_14_method_30_code 0 = .ok (.iload_n 1, 1) := by decide +kernel
theorem d_M_isLetter_1 : decode prog_14_method_30_code 1 = .ok (.ifCond .lt 15, 3) := by decide +kernel
theorem d_M_isLetter_16 : decode prog_14_method_30_code 16 = .ok (.iconst 0, 1) := by decide +kernel
theorem d_M_isLetter_17 : decode prog_14_method_30_code 17 = .ok (.ireturn, 1) := by decide +kernel
theorem d_M_isLetter_4 : decode prog_14_method_30_code 4 = .ok (.iload_n 1, 1) := by decide +kernel
theorem d_M_isLetter_5 : decode prog_14_method_30_code 5 = .ok (.aload_n 0, 1) := by decide +kernel
theorem d_M_isLetter_6 : decode prog_14_method_30_code 6 = .ok (.getfield 277, 3) := by decide +kernel
theorem d_M_isLetter_9 : decode prog_14_method_30_code 9 = .ok (.if_icmp .ge 7, 3) := by decide +kernel
theorem d_M_isLetter_12 : decode prog_14_method_30_code 12 = .ok (.iconst 1, 1) := by decide +kernel
theorem d_M_isLetter_13 : decode prog_14_method_30_code 13 = .ok (.goto 4, 3) := by decide +kernel
theorem d_M_isDay_0 : decode prog_14_method_31_code 0 = .ok (.iload_n 0, 1) := by decide +kernel
theorem d_M_isDay_1 : decode prog_14_method_31_code 1 = .ok (.ifCond .lt 14, 3) := by decide +kernel
theorem d_M_isDay_15 : decode prog_14_method_31_code 15 = .ok (.iconst 0, 1) := by decide +kernel
theorem d_M_isDay_16 : decode prog_14_method_31_code 16 = .ok (.ireturn, 1) := by decide +kernel
theorem d_M_isDay_4 : decode prog_14_method_31_code 4 = .ok (.iload_n 0, 1) := by decide +kernel
theorem d_M_isDay_5 : decode prog_14_method_31_code 5 = .ok (.sipush 999, 3) := by decide +kernel
theorem d_M_isDay_8 : decode prog_14_method_31_code 8 = .ok (.if_icmp .gt 7, 3) := by decide +kernel
theorem d_M_isDay_11 : decode prog_14_method_31_code 11 = .ok (.iconst 1, 1) := by decide +kernel
theorem d_M_isDay_12 : decode prog_14_method_31_code 12 = .ok (.goto 4, 3) := by decide +kernel
theorem d_M_bits_0 : decode prog_14_method_32_code 0 = .ok (.iconst 0, 1) := by decide +kernel
theorem d_M_bits_1 : decode prog_14_method_32_code 1 = .ok (.istore_n 1, 1) := by decide +kernel
theorem d_M_bits_2 : decode prog_14_method_32_code 2 = .ok (.iconst 0, 1) := by decide +kernel
theorem d_M_bits_3 : decode prog_14_method_32_code 3 = .ok (.istore_n 2, 1) := by decide +kernel
theorem d_M_bits_4 : decode prog_14_method_32_code 4 = .ok (.iload_n 2, 1) := by decide +kernel
theorem d_M_bits_5 : decode prog_14_method_32_code 5 = .ok (.bipush 31, 2) := by decide +kernel
theorem d_M_bits_7 : decode prog_14_method_32_code 7 = .ok (.if_icmp .ge 17, 3) := by decide +kernel
theorem d_M_bits_10 : decode prog_14_method_32_code 10 = .ok (.iload_n 1, 1) := by decide +kernel
theorem d_M_bits_11 : decode prog_14_method_32_code 11 = .ok (.iload_n 0, 1) := by decide +kernel
theorem d_M_bits_12 : decode prog_14_method_32_code 12 = .ok (.iload_n 2, 1) := by decide +kernel
theorem d_M_bits_13 : decode prog_14_method_32_code 13 = .ok (.ishr, 1) := by decide +kernel
theorem d_M_bits_14 : decode prog_14_method_32_code 14 = .ok (.iconst 1, 1) := by decide +kernel
theorem d_M_bits_15 : decode prog_14_method_32_code 15 = .ok (.iand, 1) := by decide +kernel
theorem d_M_bits_16 : decode prog_14_method_32_code 16 = .ok (.iadd, 1) := by decide +kernel
theorem d_M_bits_17 : decode prog_14_method_32_code 17 = .ok (.istore_n 1, 1) := by decide +kernel
theorem d_M_bits_18 : decode prog_14_method_32_code 18 = .ok (.iinc 2 1, 3) := by decide +kernel
theorem d_M_bits_21 : decode prog_14_method_32_code 21 = .ok (.goto (-17), 3) := by decide +kernel
theorem d_M_bits_24 : decode prog_14_method_32_code 24 = .ok (.iload_n 1, 1) := by decide +kernel
theorem d_M_bits_25 : decode prog_14_method_32_code 25 = .ok (.ireturn, 1) := by decide +kernel
theorem d_M_way_0 : decode prog_14_method_33_code 0 = .ok (.aload_n 0, 1) := by decide +kernel
theorem d_M_way_1 : decode prog_14_method_33_code 1 = .ok (.iconst 0, 1) := by decide +kernel
theorem d_M_way_2 : decode prog_14_method_33_code 2 = .ok (.putfield 132, 3) := by decide +kernel
theorem d_M_way_5 : decode prog_14_method_33_code 5 = .ok (.iload_n 1, 1) := by decide +kernel
theorem d_M_way_6 : decode prog_14_method_33_code 6 = .ok (.invokestatic 280, 3) := by decide +kernel
theorem d_M_way_9 : decode prog_14_method_33_code 9 = .ok (.ifCond .eq 26, 3) := by decide +kernel
theorem d_M_way_35 : decode prog_14_method_33_code 35 = .ok (.iconst 0, 1) := by decide +kernel
theorem d_M_way_36 : decode prog_14_method_33_code 36 = .ok (.ireturn, 1) := by decide +kernel
theorem d_M_way_12 : decode prog_14_method_33_code 12 = .ok (.iload_n 2, 1) := by decide +kernel
theorem d_M_way_13 : decode prog_14_method_33_code 13 = .ok (.invokestatic 280, 3) := by decide +kernel
theorem d_M_way_16 : decode prog_14_method_33_code 16 = .ok (.ifCond .eq 19, 3) := by decide +kernel
theorem d_M_way_19 : decode prog_14_method_33_code 19 = .ok (.iload_n 1, 1) := by decide +kernel
theorem d_M_way_20 : decode prog_14_method_33_code 20 = .ok (.iload_n 2, 1) := by decide +kernel
theorem d_M_way_21 : decode prog_14_method_33_code 21 = .ok (.if_icmp .eq 14, 3) := by decide +kernel
theorem d_M_way_24 : decode prog_14_method_33_code 24 = .ok (.iload_n 3, 1) := by decide +kernel
theorem d_M_way_25 : decode prog_14_method_33_code 25 = .ok (.iconst 1, 1) := by decide +kernel
theorem d_M_way_26 : decode prog_14_method_33_code 26 = .ok (.if_icmp .lt 9, 3) := by decide +kernel
theorem d_M_way_29 : decode prog_14_method_33_code 29 = .ok (.iload_n 3, 1) := by decide +kernel
theorem d_M_way_30 : decode prog_14_method_33_code 30 = .ok (.bipush 30, 2) := by decide +kernel
theorem d_M_way_32 : decode prog_14_method_33_code 32 = .ok (.if_icmp .le 5, 3) := by decide +kernel
theorem d_M_way_37 : decode prog_14_method_33_code 37 = .ok (.aload_n 0, 1) := by decide +kernel
theorem d_M_way_38 : decode prog_14_method_33_code 38 = .ok (.getfield 45, 3) := by decide +kernel
theorem d_M_way_41 : decode prog_14_method_33_code 41 = .ok (.bipush 6, 2) := by decide +kernel
theorem d_M_way_43 : decode prog_14_method_33_code 43 = .ok (.iload_n 1, 1) := by decide +kernel
theorem d_M_way_44 : decode prog_14_method_33_code 44 = .ok (.imul, 1) := by decide +kernel
theorem d_M_way_45 : decode prog_14_method_33_code 45 = .ok (.iload_n 2, 1) := by decide +kernel
theorem d_M_way_46 : decode prog_14_method_33_code 46 = .ok (.iadd, 1) := by decide +kernel
theorem d_M_way_47 : decode prog_14_method_33_code 47 = .ok (.iload_n 3, 1) := by decide +kernel
theorem d_M_way_48 : decode prog_14_method_33_code 48 = .ok (.iastore, 1) := by decide +kernel
theorem d_M_way_49 : decode prog_14_method_33_code 49 = .ok (.aload_n 0, 1) := by decide +kernel
theorem d_M_way_50 : decode prog_14_method_33_code 50 = .ok (.getfield 45, 3) := by decide +kernel
theorem d_M_way_53 : decode prog_14_method_33_code 53 = .ok (.bipush 6, 2) := by decide +kernel
theorem d_M_way_55 : decode prog_14_method_33_code 55 = .ok (.iload_n 2, 1) := by decide +kernel
theorem d_M_way_56 : decode prog_14_method_33_code 56 = .ok (.imul, 1) := by decide +kernel
theorem d_M_way_57 : decode prog_14_method_33_code 57 = .ok (.iload_n 1, 1) := by decide +kernel
theorem d_M_way_58 : decode prog_14_method_33_code 58 = .ok (.iadd, 1) := by decide +kernel
theorem d_M_way_59 : decode prog_14_method_33_code 59 = .ok (.iload_n 3, 1) := by decide +kernel
theorem d_M_way_60 : decode prog_14_method_33_code 60 = .ok (.iastore, 1) := by decide +kernel
theorem d_M_way_61 : decode prog_14_method_33_code 61 = .ok (.iconst 1, 1) := by decide +kernel
theorem d_M_way_62 : decode prog_14_method_33_code 62 = .ok (.ireturn, 1) := by decide +kernel
theorem d_M_parted_0 : decode prog_14_method_34_code 0 = .ok (.aload_n 0, 1) := by decide +kernel
theorem d_M_parted_1 : decode prog_14_method_34_code 1 = .ok (.getfield 283, 3) := by decide +kernel
theorem d_M_parted_4 : decode prog_14_method_34_code 4 = .ok (.iload_n 1, 1) := by decide +kernel
theorem d_M_parted_5 : decode prog_14_method_34_code 5 = .ok (.ishr, 1) := by decide +kernel
theorem d_M_parted_6 : decode prog_14_method_34_code 6 = .ok (.iconst 1, 1) := by decide +kernel
theorem d_M_parted_7 : decode prog_14_method_34_code 7 = .ok (.iand, 1) := by decide +kernel
theorem d_M_parted_8 : decode prog_14_method_34_code 8 = .ok (.aload_n 0, 1) := by decide +kernel
theorem d_M_parted_9 : decode prog_14_method_34_code 9 = .ok (.getfield 283, 3) := by decide +kernel
theorem d_M_parted_12 : decode prog_14_method_34_code 12 = .ok (.iload_n 2, 1) := by decide +kernel
theorem d_M_parted_13 : decode prog_14_method_34_code 13 = .ok (.ishr, 1) := by decide +kernel
theorem d_M_parted_14 : decode prog_14_method_34_code 14 = .ok (.iconst 1, 1) := by decide +kernel
theorem d_M_parted_15 : decode prog_14_method_34_code 15 = .ok (.iand, 1) := by decide +kernel
theorem d_M_parted_16 : decode prog_14_method_34_code 16 = .ok (.if_icmp .eq 28, 3) := by decide +kernel
theorem d_M_parted_44 : decode prog_14_method_34_code 44 = .ok (.iload_n 3, 1) := by decide +kernel
theorem d_M_parted_45 : decode prog_14_method_34_code 45 = .ok (.ireturn, 1) := by decide +kernel
theorem d_M_parted_19 : decode prog_14_method_34_code 19 = .ok (.iload_n 3, 1) := by decide +kernel
theorem d_M_parted_20 : decode prog_14_method_34_code 20 = .ok (.aload_n 0, 1) := by decide +kernel
theorem d_M_parted_21 : decode prog_14_method_34_code 21 = .ok (.getfield 286, 3) := by decide +kernel
theorem d_M_parted_24 : decode prog_14_method_34_code 24 = .ok (.if_icmp .lt 20, 3) := by decide +kernel
theorem d_M_parted_27 : decode prog_14_method_34_code 27 = .ok (.iload_n 3, 1) := by decide +kernel
theorem d_M_parted_28 : decode prog_14_method_34_code 28 = .ok (.aload_n 0, 1) := by decide +kernel
theorem d_M_parted_29 : decode prog_14_method_34_code 29 = .ok (.getfield 289, 3) := by decide +kernel
theorem d_M_parted_32 : decode prog_14_method_34_code 32 = .ok (.if_icmp .gt 12, 3) := by decide +kernel
theorem d_M_parted_35 : decode prog_14_method_34_code 35 = .ok (.aload_n 0, 1) := by decide +kernel
theorem d_M_parted_36 : decode prog_14_method_34_code 36 = .ok (.getfield 289, 3) := by decide +kernel
theorem d_M_parted_39 : decode prog_14_method_34_code 39 = .ok (.iconst 1, 1) := by decide +kernel
theorem d_M_parted_40 : decode prog_14_method_34_code 40 = .ok (.iadd, 1) := by decide +kernel
theorem d_M_parted_41 : decode prog_14_method_34_code 41 = .ok (.goto 4, 3) := by decide +kernel
theorem d_M_post_0 : decode prog_14_method_35_code 0 = .ok (.aload_n 0, 1) := by decide +kernel
theorem d_M_post_1 : decode prog_14_method_35_code 1 = .ok (.getfield 75, 3) := by decide +kernel
theorem d_M_post_4 : decode prog_14_method_35_code 4 = .ok (.aload_n 0, 1) := by decide +kernel
theorem d_M_post_5 : decode prog_14_method_35_code 5 = .ok (.getfield 292, 3) := by decide +kernel
theorem d_M_post_8 : decode prog_14_method_35_code 8 = .ok (.iload_n 1, 1) := by decide +kernel
theorem d_M_post_9 : decode prog_14_method_35_code 9 = .ok (.iastore, 1) := by decide +kernel
theorem d_M_post_10 : decode prog_14_method_35_code 10 = .ok (.aload_n 0, 1) := by decide +kernel
theorem d_M_post_11 : decode prog_14_method_35_code 11 = .ok (.getfield 78, 3) := by decide +kernel
theorem d_M_post_14 : decode prog_14_method_35_code 14 = .ok (.aload_n 0, 1) := by decide +kernel
theorem d_M_post_15 : decode prog_14_method_35_code 15 = .ok (.getfield 292, 3) := by decide +kernel
theorem d_M_post_18 : decode prog_14_method_35_code 18 = .ok (.iload_n 2, 1) := by decide +kernel
theorem d_M_post_19 : decode prog_14_method_35_code 19 = .ok (.iastore, 1) := by decide +kernel
theorem d_M_post_20 : decode prog_14_method_35_code 20 = .ok (.aload_n 0, 1) := by decide +kernel
theorem d_M_post_21 : decode prog_14_method_35_code 21 = .ok (.getfield 81, 3) := by decide +kernel
theorem d_M_post_24 : decode prog_14_method_35_code 24 = .ok (.aload_n 0, 1) := by decide +kernel
theorem d_M_post_25 : decode prog_14_method_35_code 25 = .ok (.getfield 292, 3) := by decide +kernel
theorem d_M_post_28 : decode prog_14_method_35_code 28 = .ok (.iload_n 3, 1) := by decide +kernel
theorem d_M_post_29 : decode prog_14_method_35_code 29 = .ok (.iastore, 1) := by decide +kernel
theorem d_M_post_30 : decode prog_14_method_35_code 30 = .ok (.aload_n 0, 1) := by decide +kernel
theorem d_M_post_31 : decode prog_14_method_35_code 31 = .ok (.getfield 84, 3) := by decide +kernel
theorem d_M_post_34 : decode prog_14_method_35_code 34 = .ok (.aload_n 0, 1) := by decide +kernel
theorem d_M_post_35 : decode prog_14_method_35_code 35 = .ok (.getfield 292, 3) := by decide +kernel
theorem d_M_post_38 : decode prog_14_method_35_code 38 = .ok (.aload_n 0, 1) := by decide +kernel
theorem d_M_post_39 : decode prog_14_method_35_code 39 = .ok (.iload_n 2, 1) := by decide +kernel
theorem d_M_post_40 : decode prog_14_method_35_code 40 = .ok (.iload_n 3, 1) := by decide +kernel
theorem d_M_post_41 : decode prog_14_method_35_code 41 = .ok (.aload_n 0, 1) := by decide +kernel
theorem d_M_post_42 : decode prog_14_method_35_code 42 = .ok (.getfield 295, 3) := by decide +kernel
theorem d_M_post_45 : decode prog_14_method_35_code 45 = .ok (.aload_n 0, 1) := by decide +kernel
theorem d_M_post_46 : decode prog_14_method_35_code 46 = .ok (.getfield 45, 3) := by decide +kernel
theorem d_M_post_49 : decode prog_14_method_35_code 49 = .ok (.bipush 6, 2) := by decide +kernel
theorem d_M_post_51 : decode prog_14_method_35_code 51 = .ok (.iload_n 2, 1) := by decide +kernel
theorem d_M_post_52 : decode prog_14_method_35_code 52 = .ok (.imul, 1) := by decide +kernel
theorem d_M_post_53 : decode prog_14_method_35_code 53 = .ok (.iload_n 3, 1) := by decide +kernel
theorem d_M_post_54 : decode prog_14_method_35_code 54 = .ok (.iadd, 1) := by decide +kernel
theorem d_M_post_55 : decode prog_14_method_35_code 55 = .ok (.iaload, 1) := by decide +kernel
theorem d_M_post_56 : decode prog_14_method_35_code 56 = .ok (.iadd, 1) := by decide +kernel
theorem d_M_post_57 : decode prog_14_method_35_code 57 = .ok (.invokevirtual 298, 3) := by decide +kernel
theorem d_M_post_60 : decode prog_14_method_35_code 60 = .ok (.iastore, 1) := by decide +kernel
theorem d_M_post_61 : decode prog_14_method_35_code 61 = .ok (.aload_n 0, 1) := by decide +kernel
theorem d_M_post_62 : decode prog_14_method_35_code 62 = .ok (.getfield 87, 3) := by decide +kernel
theorem d_M_post_65 : decode prog_14_method_35_code 65 = .ok (.aload_n 0, 1) := by decide +kernel
theorem d_M_post_66 : decode prog_14_method_35_code 66 = .ok (.getfield 292, 3) := by decide +kernel
theorem d_M_post_69 : decode prog_14_method_35_code 69 = .ok (.iconst 0, 1) := by decide +kernel
theorem d_M_post_70 : decode prog_14_method_35_code 70 = .ok (.iastore, 1) := by decide +kernel
theorem d_M_post_71 : decode prog_14_method_35_code 71 = .ok (.aload_n 0, 1) := by decide +kernel
theorem d_M_post_72 : decode prog_14_method_35_code 72 = .ok (.dup, 1) := by decide +kernel
theorem d_M_post_73 : decode prog_14_method_35_code 73 = .ok (.getfield 292, 3) := by decide +kernel
theorem d_M_post_76 : decode prog_14_method_35_code 76 = .ok (.iconst 1, 1) := by decide +kernel
theorem d_M_post_77 : decode prog_14_method_35_code 77 = .ok (.iadd, 1) := by decide +kernel
theorem d_M_post_78 : decode prog_14_method_35_code 78 = .ok (.putfield 292, 3) := by decide +kernel
theorem d_M_post_81 : decode prog_14_method_35_code 81 = .ok (.return_, 1) := by decide +kernel
theorem d_M_written_0 : decode prog_14_method_36_code 0 = .ok (.aload_n 0, 1) := by decide +kernel
theorem d_M_written_1 : decode prog_14_method_36_code 1 = .ok (.getfield 277, 3) := by decide +kernel
theorem d_M_written_4 : decode prog_14_method_36_code 4 = .ok (.istore 6, 2) := by decide +kernel
theorem d_M_written_6 : decode prog_14_method_36_code 6 = .ok (.aload_n 0, 1) := by decide +kernel
theorem d_M_written_7 : decode prog_14_method_36_code 7 = .ok (.getfield 48, 3) := by decide +kernel
theorem d_M_written_10 : decode prog_14_method_36_code 10 = .ok (.iload 6, 2) := by decide +kernel
theorem d_M_written_12 : decode prog_14_method_36_code 12 = .ok (.iload_n 1, 1) := by decide +kernel
theorem d_M_written_13 : decode prog_14_method_36_code 13 = .ok (.iastore, 1) := by decide +kernel
theorem d_M_written_14 : decode prog_14_method_36_code 14 = .ok (.aload_n 0, 1) := by decide +kernel
theorem d_M_written_15 : decode prog_14_method_36_code 15 = .ok (.getfield 51, 3) := by decide +kernel
theorem d_M_written_18 : decode prog_14_method_36_code 18 = .ok (.iload 6, 2) := by decide +kernel
theorem d_M_written_20 : decode prog_14_method_36_code 20 = .ok (.aload_n 0, 1) := by decide +kernel
theorem d_M_written_21 : decode prog_14_method_36_code 21 = .ok (.getfield 295, 3) := by decide +kernel
theorem d_M_written_24 : decode prog_14_method_36_code 24 = .ok (.iastore, 1) := by decide +kernel
theorem d_M_written_25 : decode prog_14_method_36_code 25 = .ok (.aload_n 0, 1) := by decide +kernel
theorem d_M_written_26 : decode prog_14_method_36_code 26 = .ok (.getfield 54, 3) := by decide +kernel
theorem d_M_written_29 : decode prog_14_method_36_code 29 = .ok (.iload 6, 2) := by decide +kernel
theorem d_M_written_31 : decode prog_14_method_36_code 31 = .ok (.iload_n 3, 1) := by decide +kernel
theorem d_M_written_32 : decode prog_14_method_36_code 32 = .ok (.iastore, 1) := by decide +kernel
theorem d_M_written_33 : decode prog_14_method_36_code 33 = .ok (.aload_n 0, 1) := by decide +kernel
theorem d_M_written_34 : decode prog_14_method_36_code 34 = .ok (.getfield 57, 3) := by decide +kernel
theorem d_M_written_37 : decode prog_14_method_36_code 37 = .ok (.iload 6, 2) := by decide +kernel
theorem d_M_written_39 : decode prog_14_method_36_code 39 = .ok (.iload_n 2, 1) := by decide +kernel
theorem d_M_written_40 : decode prog_14_method_36_code 40 = .ok (.iastore, 1) := by decide +kernel
theorem d_M_written_41 : decode prog_14_method_36_code 41 = .ok (.aload_n 0, 1) := by decide +kernel
theorem d_M_written_42 : decode prog_14_method_36_code 42 = .ok (.getfield 60, 3) := by decide +kernel
theorem d_M_written_45 : decode prog_14_method_36_code 45 = .ok (.iload 6, 2) := by decide +kernel
theorem d_M_written_47 : decode prog_14_method_36_code 47 = .ok (.iload 4, 2) := by decide +kernel
theorem d_M_written_49 : decode prog_14_method_36_code 49 = .ok (.iastore, 1) := by decide +kernel
theorem d_M_written_50 : decode prog_14_method_36_code 50 = .ok (.aload_n 0, 1) := by decide +kernel
theorem d_M_written_51 : decode prog_14_method_36_code 51 = .ok (.getfield 63, 3) := by decide +kernel
theorem d_M_written_54 : decode prog_14_method_36_code 54 = .ok (.iload 6, 2) := by decide +kernel
theorem d_M_written_56 : decode prog_14_method_36_code 56 = .ok (.iload 5, 2) := by decide +kernel
theorem d_M_written_58 : decode prog_14_method_36_code 58 = .ok (.iastore, 1) := by decide +kernel
theorem d_M_written_59 : decode prog_14_method_36_code 59 = .ok (.aload_n 0, 1) := by decide +kernel
theorem d_M_written_60 : decode prog_14_method_36_code 60 = .ok (.getfield 72, 3) := by decide +kernel
theorem d_M_written_63 : decode prog_14_method_36_code 63 = .ok (.iload 6, 2) := by decide +kernel
theorem d_M_written_65 : decode prog_14_method_36_code 65 = .ok (.iconst 0, 1) := by decide +kernel
theorem d_M_written_66 : decode prog_14_method_36_code 66 = .ok (.bastore, 1) := by decide +kernel
theorem d_M_written_67 : decode prog_14_method_36_code 67 = .ok (.aload_n 0, 1) := by decide +kernel
theorem d_M_written_68 : decode prog_14_method_36_code 68 = .ok (.getfield 66, 3) := by decide +kernel
theorem d_M_written_71 : decode prog_14_method_36_code 71 = .ok (.iload 6, 2) := by decide +kernel
theorem d_M_written_73 : decode prog_14_method_36_code 73 = .ok (.aload_n 0, 1) := by decide +kernel
theorem d_M_written_74 : decode prog_14_method_36_code 74 = .ok (.getfield 90, 3) := by decide +kernel
theorem d_M_written_77 : decode prog_14_method_36_code 77 = .ok (.iload_n 1, 1) := by decide +kernel
theorem d_M_written_78 : decode prog_14_method_36_code 78 = .ok (.iaload, 1) := by decide +kernel
theorem d_M_written_79 : decode prog_14_method_36_code 79 = .ok (.iastore, 1) := by decide +kernel
theorem d_M_written_80 : decode prog_14_method_36_code 80 = .ok (.aload_n 0, 1) := by decide +kernel
theorem d_M_written_81 : decode prog_14_method_36_code 81 = .ok (.getfield 69, 3) := by decide +kernel
theorem d_M_written_84 : decode prog_14_method_36_code 84 = .ok (.iload 6, 2) := by decide +kernel
theorem d_M_written_86 : decode prog_14_method_36_code 86 = .ok (.aload_n 0, 1) := by decide +kernel
theorem d_M_written_87 : decode prog_14_method_36_code 87 = .ok (.getfield 90, 3) := by decide +kernel
theorem d_M_written_90 : decode prog_14_method_36_code 90 = .ok (.iload_n 1, 1) := by decide +kernel
theorem d_M_written_91 : decode prog_14_method_36_code 91 = .ok (.iaload, 1) := by decide +kernel
theorem d_M_written_92 : decode prog_14_method_36_code 92 = .ok (.iastore, 1) := by decide +kernel
theorem d_M_written_93 : decode prog_14_method_36_code 93 = .ok (.iconst 0, 1) := by decide +kernel
theorem d_M_written_94 : decode prog_14_method_36_code 94 = .ok (.istore 7, 2) := by decide +kernel
theorem d_M_written_96 : decode prog_14_method_36_code 96 = .ok (.iload 7, 2) := by decide +kernel
theorem d_M_written_98 : decode prog_14_method_36_code 98 = .ok (.iload 6, 2) := by decide +kernel
theorem d_M_written_100 : decode prog_14_method_36_code 100 = .ok (.if_icmp .ge 41, 3) := by decide +kernel
theorem d_M_written_103 : decode prog_14_method_36_code 103 = .ok (.aload_n 0, 1) := by decide +kernel
theorem d_M_written_104 : decode prog_14_method_36_code 104 = .ok (.getfield 90, 3) := by decide +kernel
theorem d_M_written_107 : decode prog_14_method_36_code 107 = .ok (.iload_n 1, 1) := by decide +kernel
theorem d_M_written_108 : decode prog_14_method_36_code 108 = .ok (.iaload, 1) := by decide +kernel
theorem d_M_written_109 : decode prog_14_method_36_code 109 = .ok (.iload 7, 2) := by decide +kernel
theorem d_M_written_111 : decode prog_14_method_36_code 111 = .ok (.ishr, 1) := by decide +kernel
theorem d_M_written_112 : decode prog_14_method_36_code 112 = .ok (.iconst 1, 1) := by decide +kernel
theorem d_M_written_113 : decode prog_14_method_36_code 113 = .ok (.iand, 1) := by decide +kernel
theorem d_M_written_114 : decode prog_14_method_36_code 114 = .ok (.iconst 1, 1) := by decide +kernel
theorem d_M_written_115 : decode prog_14_method_36_code 115 = .ok (.if_icmp .ne 20, 3) := by decide +kernel
theorem d_M_written_135 : decode prog_14_method_36_code 135 = .ok (.iinc 7 1, 3) := by decide +kernel
theorem d_M_written_138 : decode prog_14_method_36_code 138 = .ok (.goto (-42), 3) := by decide +kernel
theorem d_M_written_118 : decode prog_14_method_36_code 118 = .ok (.aload_n 0, 1) := by decide +kernel
theorem d_M_written_119 : decode prog_14_method_36_code 119 = .ok (.getfield 69, 3) := by decide +kernel
theorem d_M_written_122 : decode prog_14_method_36_code 122 = .ok (.iload 6, 2) := by decide +kernel
theorem d_M_written_124 : decode prog_14_method_36_code 124 = .ok (.dup2, 1) := by decide +kernel
theorem d_M_written_125 : decode prog_14_method_36_code 125 = .ok (.iaload, 1) := by decide +kernel
theorem d_M_written_126 : decode prog_14_method_36_code 126 = .ok (.aload_n 0, 1) := by decide +kernel
theorem d_M_written_127 : decode prog_14_method_36_code 127 = .ok (.getfield 69, 3) := by decide +kernel
theorem d_M_written_130 : decode prog_14_method_36_code 130 = .ok (.iload 7, 2) := by decide +kernel
theorem d_M_written_132 : decode prog_14_method_36_code 132 = .ok (.iaload, 1) := by decide +kernel
theorem d_M_written_133 : decode prog_14_method_36_code 133 = .ok (.ior, 1) := by decide +kernel
theorem d_M_written_134 : decode prog_14_method_36_code 134 = .ok (.iastore, 1) := by decide +kernel
theorem d_M_written_141 : decode prog_14_method_36_code 141 = .ok (.aload_n 0, 1) := by decide +kernel
theorem d_M_written_142 : decode prog_14_method_36_code 142 = .ok (.dup, 1) := by decide +kernel
theorem d_M_written_143 : decode prog_14_method_36_code 143 = .ok (.getfield 277, 3) := by decide +kernel
theorem d_M_written_146 : decode prog_14_method_36_code 146 = .ok (.iconst 1, 1) := by decide +kernel
theorem d_M_written_147 : decode prog_14_method_36_code 147 = .ok (.iadd, 1) := by decide +kernel
theorem d_M_written_148 : decode prog_14_method_36_code 148 = .ok (.putfield 277, 3) := by decide +kernel
theorem d_M_written_151 : decode prog_14_method_36_code 151 = .ok (.iconst 0, 1) := by decide +kernel
theorem d_M_written_152 : decode prog_14_method_36_code 152 = .ok (.istore 7, 2) := by decide +kernel
theorem d_M_written_154 : decode prog_14_method_36_code 154 = .ok (.iload 7, 2) := by decide +kernel
theorem d_M_written_156 : decode prog_14_method_36_code 156 = .ok (.bipush 6, 2) := by decide +kernel
theorem d_M_written_158 : decode prog_14_method_36_code 158 = .ok (.if_icmp .ge 23, 3) := by decide +kernel
theorem d_M_written_161 : decode prog_14_method_36_code 161 = .ok (.aload_n 0, 1) := by decide +kernel
theorem d_M_written_162 : decode prog_14_method_36_code 162 = .ok (.getfield 93, 3) := by decide +kernel
theorem d_M_written_165 : decode prog_14_method_36_code 165 = .ok (.bipush 30, 2) := by decide +kernel
theorem d_M_written_167 : decode prog_14_method_36_code 167 = .ok (.iload 7, 2) := by decide +kernel
theorem d_M_written_169 : decode prog_14_method_36_code 169 = .ok (.imul, 1) := by decide +kernel
theorem d_M_written_170 : decode prog_14_method_36_code 170 = .ok (.iload 6, 2) := by decide +kernel
theorem d_M_written_172 : decode prog_14_method_36_code 172 = .ok (.iadd, 1) := by decide +kernel
theorem d_M_written_173 : decode prog_14_method_36_code 173 = .ok (.iconst (-1), 1) := by decide +kernel
theorem d_M_written_174 : decode prog_14_method_36_code 174 = .ok (.iastore, 1) := by decide +kernel
theorem d_M_written_175 : decode prog_14_method_36_code 175 = .ok (.iinc 7 1, 3) := by decide +kernel
theorem d_M_written_178 : decode prog_14_method_36_code 178 = .ok (.goto (-24), 3) := by decide +kernel
theorem d_M_written_181 : decode prog_14_method_36_code 181 = .ok (.aload_n 0, 1) := by decide +kernel
theorem d_M_written_182 : decode prog_14_method_36_code 182 = .ok (.getfield 90, 3) := by decide +kernel
theorem d_M_written_185 : decode prog_14_method_36_code 185 = .ok (.iload_n 1, 1) := by decide +kernel
theorem d_M_written_186 : decode prog_14_method_36_code 186 = .ok (.dup2, 1) := by decide +kernel
theorem d_M_written_187 : decode prog_14_method_36_code 187 = .ok (.iaload, 1) := by decide +kernel
theorem d_M_written_188 : decode prog_14_method_36_code 188 = .ok (.iconst 1, 1) := by decide +kernel
theorem d_M_written_189 : decode prog_14_method_36_code 189 = .ok (.iload 6, 2) := by decide +kernel
theorem d_M_written_191 : decode prog_14_method_36_code 191 = .ok (.ishl, 1) := by decide +kernel
theorem d_M_written_192 : decode prog_14_method_36_code 192 = .ok (.ior, 1) := by decide +kernel
theorem d_M_written_193 : decode prog_14_method_36_code 193 = .ok (.iastore, 1) := by decide +kernel
theorem d_M_written_194 : decode prog_14_method_36_code 194 = .ok (.aload_n 0, 1) := by decide +kernel
theorem d_M_written_195 : decode prog_14_method_36_code 195 = .ok (.getfield 93, 3) := by decide +kernel
theorem d_M_written_198 : decode prog_14_method_36_code 198 = .ok (.bipush 30, 2) := by decide +kernel
theorem d_M_written_200 : decode prog_14_method_36_code 200 = .ok (.iload_n 1, 1) := by decide +kernel
theorem d_M_written_201 : decode prog_14_method_36_code 201 = .ok (.imul, 1) := by decide +kernel
theorem d_M_written_202 : decode prog_14_method_36_code 202 = .ok (.iload 6, 2) := by decide +kernel
theorem d_M_written_204 : decode prog_14_method_36_code 204 = .ok (.iadd, 1) := by decide +kernel
theorem d_M_written_205 : decode prog_14_method_36_code 205 = .ok (.aload_n 0, 1) := by decide +kernel
theorem d_M_written_206 : decode prog_14_method_36_code 206 = .ok (.getfield 295, 3) := by decide +kernel
theorem d_M_written_209 : decode prog_14_method_36_code 209 = .ok (.iastore, 1) := by decide +kernel
theorem d_M_written_210 : decode prog_14_method_36_code 210 = .ok (.iconst 0, 1) := by decide +kernel
theorem d_M_written_211 : decode prog_14_method_36_code 211 = .ok (.istore 7, 2) := by decide +kernel
theorem d_M_written_213 : decode prog_14_method_36_code 213 = .ok (.iload 7, 2) := by decide +kernel
theorem d_M_written_215 : decode prog_14_method_36_code 215 = .ok (.bipush 6, 2) := by decide +kernel
theorem d_M_written_217 : decode prog_14_method_36_code 217 = .ok (.if_icmp .ge 28, 3) := by decide +kernel
theorem d_M_written_220 : decode prog_14_method_36_code 220 = .ok (.iload_n 2, 1) := by decide +kernel
theorem d_M_written_221 : decode prog_14_method_36_code 221 = .ok (.iload 7, 2) := by decide +kernel
theorem d_M_written_223 : decode prog_14_method_36_code 223 = .ok (.ishr, 1) := by decide +kernel
theorem d_M_written_224 : decode prog_14_method_36_code 224 = .ok (.iconst 1, 1) := by decide +kernel
theorem d_M_written_225 : decode prog_14_method_36_code 225 = .ok (.iand, 1) := by decide +kernel
theorem d_M_written_226 : decode prog_14_method_36_code 226 = .ok (.iconst 1, 1) := by decide +kernel
theorem d_M_written_227 : decode prog_14_method_36_code 227 = .ok (.if_icmp .ne 12, 3) := by decide +kernel
theorem d_M_written_239 : decode prog_14_method_36_code 239 = .ok (.iinc 7 1, 3) := by decide +kernel
theorem d_M_written_242 : decode prog_14_method_36_code 242 = .ok (.goto (-29), 3) := by decide +kernel
theorem d_M_written_230 : decode prog_14_method_36_code 230 = .ok (.aload_n 0, 1) := by decide +kernel
theorem d_M_written_231 : decode prog_14_method_36_code 231 = .ok (.iload 6, 2) := by decide +kernel
theorem d_M_written_233 : decode prog_14_method_36_code 233 = .ok (.iload_n 1, 1) := by decide +kernel
theorem d_M_written_234 : decode prog_14_method_36_code 234 = .ok (.iload 7, 2) := by decide +kernel
theorem d_M_written_236 : decode prog_14_method_36_code 236 = .ok (.invokevirtual 302, 3) := by decide +kernel
theorem d_M_written_245 : decode prog_14_method_36_code 245 = .ok (.return_, 1) := by decide +kernel
theorem d_M_hasRoom_0 : decode prog_14_method_37_code 0 = .ok (.aload_n 0, 1) := by decide +kernel
theorem d_M_hasRoom_1 : decode prog_14_method_37_code 1 = .ok (.getfield 277, 3) := by decide +kernel
theorem d_M_hasRoom_4 : decode prog_14_method_37_code 4 = .ok (.bipush 30, 2) := by decide +kernel
theorem d_M_hasRoom_6 : decode prog_14_method_37_code 6 = .ok (.if_icmp .ge 22, 3) := by decide +kernel
theorem d_M_hasRoom_28 : decode prog_14_method_37_code 28 = .ok (.iconst 0, 1) := by decide +kernel
theorem d_M_hasRoom_29 : decode prog_14_method_37_code 29 = .ok (.ireturn, 1) := by decide +kernel
theorem d_M_hasRoom_9 : decode prog_14_method_37_code 9 = .ok (.aload_n 0, 1) := by decide +kernel
theorem d_M_hasRoom_10 : decode prog_14_method_37_code 10 = .ok (.getfield 292, 3) := by decide +kernel
theorem d_M_hasRoom_13 : decode prog_14_method_37_code 13 = .ok (.iload_n 1, 1) := by decide +kernel
theorem d_M_hasRoom_14 : decode prog_14_method_37_code 14 = .ok (.invokestatic 306, 3) := by decide +kernel
theorem d_M_hasRoom_17 : decode prog_14_method_37_code 17 = .ok (.iadd, 1) := by decide +kernel
theorem d_M_hasRoom_18 : decode prog_14_method_37_code 18 = .ok (.sipush 150, 3) := by decide +kernel
theorem d_M_hasRoom_21 : decode prog_14_method_37_code 21 = .ok (.if_icmp .gt 7, 3) := by decide +kernel
theorem d_M_hasRoom_24 : decode prog_14_method_37_code 24 = .ok (.iconst 1, 1) := by decide +kernel
theorem d_M_hasRoom_25 : decode prog_14_method_37_code 25 = .ok (.goto 4, 3) := by decide +kernel
theorem d_M_isKnown_0 : decode prog_14_method_38_code 0 = .ok (.aload_n 0, 1) := by decide +kernel
theorem d_M_isKnown_1 : decode prog_14_method_38_code 1 = .ok (.iload_n 2, 1) := by decide +kernel
theorem d_M_isKnown_2 : decode prog_14_method_38_code 2 = .ok (.invokevirtual 309, 3) := by decide +kernel
theorem d_M_isKnown_5 : decode prog_14_method_38_code 5 = .ok (.ifCond .eq 21, 3) := by decide +kernel
theorem d_M_isKnown_26 : decode prog_14_method_38_code 26 = .ok (.iconst 0, 1) := by decide +kernel
theorem d_M_isKnown_27 : decode prog_14_method_38_code 27 = .ok (.ireturn, 1) := by decide +kernel
theorem d_M_isKnown_8 : decode prog_14_method_38_code 8 = .ok (.aload_n 0, 1) := by decide +kernel
theorem d_M_isKnown_9 : decode prog_14_method_38_code 9 = .ok (.getfield 90, 3) := by decide +kernel
theorem d_M_isKnown_12 : decode prog_14_method_38_code 12 = .ok (.iload_n 1, 1) := by decide +kernel
theorem d_M_isKnown_13 : decode prog_14_method_38_code 13 = .ok (.iaload, 1) := by decide +kernel
theorem d_M_isKnown_14 : decode prog_14_method_38_code 14 = .ok (.iload_n 2, 1) := by decide +kernel
theorem d_M_isKnown_15 : decode prog_14_method_38_code 15 = .ok (.ishr, 1) := by decide +kernel
theorem d_M_isKnown_16 : decode prog_14_method_38_code 16 = .ok (.iconst 1, 1) := by decide +kernel
theorem d_M_isKnown_17 : decode prog_14_method_38_code 17 = .ok (.iand, 1) := by decide +kernel
theorem d_M_isKnown_18 : decode prog_14_method_38_code 18 = .ok (.iconst 1, 1) := by decide +kernel
theorem d_M_isKnown_19 : decode prog_14_method_38_code 19 = .ok (.if_icmp .ne 7, 3) := by decide +kernel
theorem d_M_isKnown_22 : decode prog_14_method_38_code 22 = .ok (.iconst 1, 1) := by decide +kernel
theorem d_M_isKnown_23 : decode prog_14_method_38_code 23 = .ok (.goto 4, 3) := by decide +kernel
theorem d_M_write_0 : decode prog_14_method_39_code 0 = .ok (.aload_n 0, 1) := by decide +kernel
theorem d_M_write_1 : decode prog_14_method_39_code 1 = .ok (.iconst 0, 1) := by decide +kernel
theorem d_M_write_2 : decode prog_14_method_39_code 2 = .ok (.putfield 132, 3) := by decide +kernel
theorem d_M_write_5 : decode prog_14_method_39_code 5 = .ok (.iload_n 1, 1) := by decide +kernel
theorem d_M_write_6 : decode prog_14_method_39_code 6 = .ok (.invokestatic 280, 3) := by decide +kernel
theorem d_M_write_9 : decode prog_14_method_39_code 9 = .ok (.ifCond .eq 32, 3) := by decide +kernel
theorem d_M_write_41 : decode prog_14_method_39_code 41 = .ok (.iconst (-1), 1) := by decide +kernel
theorem d_M_write_42 : decode prog_14_method_39_code 42 = .ok (.ireturn, 1) := by decide +kernel
theorem d_M_write_12 : decode prog_14_method_39_code 12 = .ok (.iload_n 2, 1) := by decide +kernel
theorem d_M_write_13 : decode prog_14_method_39_code 13 = .ok (.iconst 1, 1) := by decide +kernel
theorem d_M_write_14 : decode prog_14_method_39_code 14 = .ok (.if_icmp .lt 27, 3) := by decide +kernel
theorem d_M_write_17 : decode prog_14_method_39_code 17 = .ok (.iload_n 2, 1) := by decide +kernel
theorem d_M_write_18 : decode prog_14_method_39_code 18 = .ok (.bipush 63, 2) := by decide +kernel
theorem d_M_write_20 : decode prog_14_method_39_code 20 = .ok (.if_icmp .gt 21, 3) := by decide +kernel
theorem d_M_write_23 : decode prog_14_method_39_code 23 = .ok (.iload_n 2, 1) := by decide +kernel
theorem d_M_write_24 : decode prog_14_method_39_code 24 = .ok (.iload_n 1, 1) := by decide +kernel
theorem d_M_write_25 : decode prog_14_method_39_code 25 = .ok (.ishr, 1) := by decide +kernel
theorem d_M_write_26 : decode prog_14_method_39_code 26 = .ok (.iconst 1, 1) := by decide +kernel
theorem d_M_write_27 : decode prog_14_method_39_code 27 = .ok (.iand, 1) := by decide +kernel
theorem d_M_write_28 : decode prog_14_method_39_code 28 = .ok (.iconst 1, 1) := by decide +kernel
theorem d_M_write_29 : decode prog_14_method_39_code 29 = .ok (.if_icmp .eq 12, 3) := by decide +kernel
theorem d_M_write_32 : decode prog_14_method_39_code 32 = .ok (.iload_n 3, 1) := by decide +kernel
theorem d_M_write_33 : decode prog_14_method_39_code 33 = .ok (.ifCond .lt 8, 3) := by decide +kernel
theorem d_M_write_36 : decode prog_14_method_39_code 36 = .ok (.iload_n 3, 1) := by decide +kernel
theorem d_M_write_37 : decode prog_14_method_39_code 37 = .ok (.iconst 2, 1) := by decide +kernel
theorem d_M_write_38 : decode prog_14_method_39_code 38 = .ok (.if_icmp .le 5, 3) := by decide +kernel
theorem d_M_write_43 : decode prog_14_method_39_code 43 = .ok (.iload 4, 2) := by decide +kernel
theorem d_M_write_45 : decode prog_14_method_39_code 45 = .ok (.iconst (-1), 1) := by decide +kernel
theorem d_M_write_46 : decode prog_14_method_39_code 46 = .ok (.if_icmp .ne 12, 3) := by decide +kernel
theorem d_M_write_58 : decode prog_14_method_39_code 58 = .ok (.aload_n 0, 1) := by decide +kernel
theorem d_M_write_59 : decode prog_14_method_39_code 59 = .ok (.iload_n 1, 1) := by decide +kernel
theorem d_M_write_60 : decode prog_14_method_39_code 60 = .ok (.iload 4, 2) := by decide +kernel
theorem d_M_write_62 : decode prog_14_method_39_code 62 = .ok (.invokevirtual 312, 3) := by decide +kernel
theorem d_M_write_65 : decode prog_14_method_39_code 65 = .ok (.ifCond .eq 26, 3) := by decide +kernel
theorem d_M_write_91 : decode prog_14_method_39_code 91 = .ok (.iconst (-1), 1) := by decide +kernel
theorem d_M_write_92 : decode prog_14_method_39_code 92 = .ok (.ireturn, 1) := by decide +kernel
theorem d_M_write_68 : decode prog_14_method_39_code 68 = .ok (.iload 5, 2) := by decide +kernel
theorem d_M_write_70 : decode prog_14_method_39_code 70 = .ok (.iload 4, 2) := by decide +kernel
theorem d_M_write_72 : decode prog_14_method_39_code 72 = .ok (.if_icmp .eq 19, 3) := by decide +kernel
theorem d_M_write_75 : decode prog_14_method_39_code 75 = .ok (.iload 5, 2) := by decide +kernel
theorem d_M_write_77 : decode prog_14_method_39_code 77 = .ok (.iconst (-1), 1) := by decide +kernel
theorem d_M_write_78 : decode prog_14_method_39_code 78 = .ok (.if_icmp .eq 15, 3) := by decide +kernel
theorem d_M_write_93 : decode prog_14_method_39_code 93 = .ok (.iload_n 3, 1) := by decide +kernel
theorem d_M_write_94 : decode prog_14_method_39_code 94 = .ok (.iconst 2, 1) := by decide +kernel
theorem d_M_write_95 : decode prog_14_method_39_code 95 = .ok (.if_icmp .ne 26, 3) := by decide +kernel
theorem d_M_write_121 : decode prog_14_method_39_code 121 = .ok (.aload_n 0, 1) := by decide +kernel
theorem d_M_write_122 : decode prog_14_method_39_code 122 = .ok (.iload_n 2, 1) := by decide +kernel
theorem d_M_write_123 : decode prog_14_method_39_code 123 = .ok (.invokevirtual 316, 3) := by decide +kernel
theorem d_M_write_126 : decode prog_14_method_39_code 126 = .ok (.ifCond .ne 5, 3) := by decide +kernel
theorem d_M_write_131 : decode prog_14_method_39_code 131 = .ok (.aload_n 0, 1) := by decide +kernel
theorem d_M_write_132 : decode prog_14_method_39_code 132 = .ok (.iload_n 1, 1) := by decide +kernel
theorem d_M_write_133 : decode prog_14_method_39_code 133 = .ok (.iload_n 2, 1) := by decide +kernel
theorem d_M_write_134 : decode prog_14_method_39_code 134 = .ok (.iload_n 3, 1) := by decide +kernel
theorem d_M_write_135 : decode prog_14_method_39_code 135 = .ok (.iload 4, 2) := by decide +kernel
theorem d_M_write_137 : decode prog_14_method_39_code 137 = .ok (.iload 5, 2) := by decide +kernel
theorem d_M_write_139 : decode prog_14_method_39_code 139 = .ok (.invokevirtual 319, 3) := by decide +kernel
theorem d_M_write_142 : decode prog_14_method_39_code 142 = .ok (.aload_n 0, 1) := by decide +kernel
theorem d_M_write_143 : decode prog_14_method_39_code 143 = .ok (.getfield 277, 3) := by decide +kernel
theorem d_M_write_146 : decode prog_14_method_39_code 146 = .ok (.iconst 1, 1) := by decide +kernel
theorem d_M_write_147 : decode prog_14_method_39_code 147 = .ok (.isub, 1) := by decide +kernel
theorem d_M_write_148 : decode prog_14_method_39_code 148 = .ok (.ireturn, 1) := by decide +kernel
theorem d_M_write_129 : decode prog_14_method_39_code 129 = .ok (.iconst (-1), 1) := by decide +kernel
theorem d_M_write_130 : decode prog_14_method_39_code 130 = .ok (.ireturn, 1) := by decide +kernel
theorem d_M_write_98 : decode prog_14_method_39_code 98 = .ok (.iload 4, 2) := by decide +kernel
theorem d_M_write_100 : decode prog_14_method_39_code 100 = .ok (.iconst (-1), 1) := by decide +kernel
theorem d_M_write_101 : decode prog_14_method_39_code 101 = .ok (.if_icmp .eq 28, 3) := by decide +kernel
theorem d_M_write_104 : decode prog_14_method_39_code 104 = .ok (.iload 5, 2) := by decide +kernel
theorem d_M_write_106 : decode prog_14_method_39_code 106 = .ok (.iconst (-1), 1) := by decide +kernel
theorem d_M_write_107 : decode prog_14_method_39_code 107 = .ok (.if_icmp .ne 22, 3) := by decide +kernel
theorem d_M_write_110 : decode prog_14_method_39_code 110 = .ok (.aload_n 0, 1) := by decide +kernel
theorem d_M_write_111 : decode prog_14_method_39_code 111 = .ok (.getfield 48, 3) := by decide +kernel
theorem d_M_write_114 : decode prog_14_method_39_code 114 = .ok (.iload 4, 2) := by decide +kernel
theorem d_M_write_116 : decode prog_14_method_39_code 116 = .ok (.iaload, 1) := by decide +kernel
theorem d_M_write_117 : decode prog_14_method_39_code 117 = .ok (.iload_n 1, 1) := by decide +kernel
theorem d_M_write_118 : decode prog_14_method_39_code 118 = .ok (.if_icmp .ne 11, 3) := by decide +kernel
theorem d_M_write_81 : decode prog_14_method_39_code 81 = .ok (.aload_n 0, 1) := by decide +kernel
theorem d_M_write_82 : decode prog_14_method_39_code 82 = .ok (.iload_n 1, 1) := by decide +kernel
theorem d_M_write_83 : decode prog_14_method_39_code 83 = .ok (.iload 5, 2) := by decide +kernel
theorem d_M_write_85 : decode prog_14_method_39_code 85 = .ok (.invokevirtual 312, 3) := by decide +kernel
theorem d_M_write_88 : decode prog_14_method_39_code 88 = .ok (.ifCond .ne 5, 3) := by decide +kernel
theorem d_M_write_49 : decode prog_14_method_39_code 49 = .ok (.iload 5, 2) := by decide +kernel
theorem d_M_write_51 : decode prog_14_method_39_code 51 = .ok (.iconst (-1), 1) := by decide +kernel
theorem d_M_write_52 : decode prog_14_method_39_code 52 = .ok (.if_icmp .eq 41, 3) := by decide +kernel
theorem d_M_write_55 : decode prog_14_method_39_code 55 = .ok (.goto 36, 3) := by decide +kernel
theorem d_M_isUnderWay_0 : decode prog_14_method_40_code 0 = .ok (.iload_n 1, 1) := by decide +kernel
theorem d_M_isUnderWay_1 : decode prog_14_method_40_code 1 = .ok (.ifCond .lt 24, 3) := by decide +kernel
theorem d_M_isUnderWay_25 : decode prog_14_method_40_code 25 = .ok (.iconst 0, 1) := by decide +kernel
theorem d_M_isUnderWay_26 : decode prog_14_method_40_code 26 = .ok (.ireturn, 1) := by decide +kernel
theorem d_M_isUnderWay_4 : decode prog_14_method_40_code 4 = .ok (.iload_n 1, 1) := by decide +kernel
theorem d_M_isUnderWay_5 : decode prog_14_method_40_code 5 = .ok (.aload_n 0, 1) := by decide +kernel
theorem d_M_isUnderWay_6 : decode prog_14_method_40_code 6 = .ok (.getfield 292, 3) := by decide +kernel
theorem d_M_isUnderWay_9 : decode prog_14_method_40_code 9 = .ok (.if_icmp .ge 16, 3) := by decide +kernel
theorem d_M_isUnderWay_12 : decode prog_14_method_40_code 12 = .ok (.aload_n 0, 1) := by decide +kernel
theorem d_M_isUnderWay_13 : decode prog_14_method_40_code 13 = .ok (.getfield 87, 3) := by decide +kernel
theorem d_M_isUnderWay_16 : decode prog_14_method_40_code 16 = .ok (.iload_n 1, 1) := by decide +kernel
theorem d_M_isUnderWay_17 : decode prog_14_method_40_code 17 = .ok (.iaload, 1) := by decide +kernel
theorem d_M_isUnderWay_18 : decode prog_14_method_40_code 18 = .ok (.ifCond .ne 7, 3) := by decide +kernel
theorem d_M_isUnderWay_21 : decode prog_14_method_40_code 21 = .ok (.iconst 1, 1) := by decide +kernel
theorem d_M_isUnderWay_22 : decode prog_14_method_40_code 22 = .ok (.goto 4, 3) := by decide +kernel
theorem d_M_late_0 : decode prog_14_method_41_code 0 = .ok (.aload_n 0, 1) := by decide +kernel
theorem d_M_late_1 : decode prog_14_method_41_code 1 = .ok (.iconst 0, 1) := by decide +kernel
theorem d_M_late_2 : decode prog_14_method_41_code 2 = .ok (.putfield 132, 3) := by decide +kernel
theorem d_M_late_5 : decode prog_14_method_41_code 5 = .ok (.aload_n 0, 1) := by decide +kernel
theorem d_M_late_6 : decode prog_14_method_41_code 6 = .ok (.iload_n 1, 1) := by decide +kernel
theorem d_M_late_7 : decode prog_14_method_41_code 7 = .ok (.invokevirtual 323, 3) := by decide +kernel
theorem d_M_late_10 : decode prog_14_method_41_code 10 = .ok (.ifCond .eq 28, 3) := by decide +kernel
theorem d_M_late_38 : decode prog_14_method_41_code 38 = .ok (.iconst (-1), 1) := by decide +kernel
theorem d_M_late_39 : decode prog_14_method_41_code 39 = .ok (.ireturn, 1) := by decide +kernel
theorem d_M_late_13 : decode prog_14_method_41_code 13 = .ok (.iload_n 2, 1) := by decide +kernel
theorem d_M_late_14 : decode prog_14_method_41_code 14 = .ok (.iconst 1, 1) := by decide +kernel
theorem d_M_late_15 : decode prog_14_method_41_code 15 = .ok (.if_icmp .lt 23, 3) := by decide +kernel
theorem d_M_late_18 : decode prog_14_method_41_code 18 = .ok (.iload_n 2, 1) := by decide +kernel
theorem d_M_late_19 : decode prog_14_method_41_code 19 = .ok (.bipush 99, 2) := by decide +kernel
theorem d_M_late_21 : decode prog_14_method_41_code 21 = .ok (.if_icmp .gt 17, 3) := by decide +kernel
theorem d_M_late_24 : decode prog_14_method_41_code 24 = .ok (.aload_n 0, 1) := by decide +kernel
theorem d_M_late_25 : decode prog_14_method_41_code 25 = .ok (.getfield 84, 3) := by decide +kernel
theorem d_M_late_28 : decode prog_14_method_41_code 28 = .ok (.iload_n 1, 1) := by decide +kernel
theorem d_M_late_29 : decode prog_14_method_41_code 29 = .ok (.iaload, 1) := by decide +kernel
theorem d_M_late_30 : decode prog_14_method_41_code 30 = .ok (.iload_n 2, 1) := by decide +kernel
theorem d_M_late_31 : decode prog_14_method_41_code 31 = .ok (.iadd, 1) := by decide +kernel
theorem d_M_late_32 : decode prog_14_method_41_code 32 = .ok (.sipush 999, 3) := by decide +kernel
theorem d_M_late_35 : decode prog_14_method_41_code 35 = .ok (.if_icmp .le 5, 3) := by decide +kernel
theorem d_M_late_40 : decode prog_14_method_41_code 40 = .ok (.aload_n 0, 1) := by decide +kernel
theorem d_M_late_41 : decode prog_14_method_41_code 41 = .ok (.getfield 84, 3) := by decide +kernel
theorem d_M_late_44 : decode prog_14_method_41_code 44 = .ok (.iload_n 1, 1) := by decide +kernel
theorem d_M_late_45 : decode prog_14_method_41_code 45 = .ok (.aload_n 0, 1) := by decide +kernel
theorem d_M_late_46 : decode prog_14_method_41_code 46 = .ok (.aload_n 0, 1) := by decide +kernel
theorem d_M_late_47 : decode prog_14_method_41_code 47 = .ok (.getfield 78, 3) := by decide +kernel
theorem d_M_late_50 : decode prog_14_method_41_code 50 = .ok (.iload_n 1, 1) := by decide +kernel
theorem d_M_late_51 : decode prog_14_method_41_code 51 = .ok (.iaload, 1) := by decide +kernel
theorem d_M_late_52 : decode prog_14_method_41_code 52 = .ok (.aload_n 0, 1) := by decide +kernel
theorem d_M_late_53 : decode prog_14_method_41_code 53 = .ok (.getfield 81, 3) := by decide +kernel
theorem d_M_late_56 : decode prog_14_method_41_code 56 = .ok (.iload_n 1, 1) := by decide +kernel
theorem d_M_late_57 : decode prog_14_method_41_code 57 = .ok (.iaload, 1) := by decide +kernel
theorem d_M_late_58 : decode prog_14_method_41_code 58 = .ok (.aload_n 0, 1) := by decide +kernel
theorem d_M_late_59 : decode prog_14_method_41_code 59 = .ok (.getfield 84, 3) := by decide +kernel
theorem d_M_late_62 : decode prog_14_method_41_code 62 = .ok (.iload_n 1, 1) := by decide +kernel
theorem d_M_late_63 : decode prog_14_method_41_code 63 = .ok (.iaload, 1) := by decide +kernel
theorem d_M_late_64 : decode prog_14_method_41_code 64 = .ok (.iload_n 2, 1) := by decide +kernel
theorem d_M_late_65 : decode prog_14_method_41_code 65 = .ok (.iadd, 1) := by decide +kernel
theorem d_M_late_66 : decode prog_14_method_41_code 66 = .ok (.invokevirtual 298, 3) := by decide +kernel
theorem d_M_late_69 : decode prog_14_method_41_code 69 = .ok (.iastore, 1) := by decide +kernel
theorem d_M_late_70 : decode prog_14_method_41_code 70 = .ok (.aload_n 0, 1) := by decide +kernel
theorem d_M_late_71 : decode prog_14_method_41_code 71 = .ok (.getfield 84, 3) := by decide +kernel
theorem d_M_late_74 : decode prog_14_method_41_code 74 = .ok (.iload_n 1, 1) := by decide +kernel
theorem d_M_late_75 : decode prog_14_method_41_code 75 = .ok (.iaload, 1) := by decide +kernel
theorem d_M_late_76 : decode prog_14_method_41_code 76 = .ok (.ireturn, 1) := by decide +kernel
theorem d_M_lose_0 : decode prog_14_method_42_code 0 = .ok (.aload_n 0, 1) := by decide +kernel
theorem d_M_lose_1 : decode prog_14_method_42_code 1 = .ok (.iconst 0, 1) := by decide +kernel
theorem d_M_lose_2 : decode prog_14_method_42_code 2 = .ok (.putfield 132, 3) := by decide +kernel
theorem d_M_lose_5 : decode prog_14_method_42_code 5 = .ok (.aload_n 0, 1) := by decide +kernel
theorem d_M_lose_6 : decode prog_14_method_42_code 6 = .ok (.iload_n 1, 1) := by decide +kernel
theorem d_M_lose_7 : decode prog_14_method_42_code 7 = .ok (.invokevirtual 323, 3) := by decide +kernel
theorem d_M_lose_10 : decode prog_14_method_42_code 10 = .ok (.ifCond .ne 5, 3) := by decide +kernel
theorem d_M_lose_15 : decode prog_14_method_42_code 15 = .ok (.aload_n 0, 1) := by decide +kernel
theorem d_M_lose_16 : decode prog_14_method_42_code 16 = .ok (.getfield 87, 3) := by decide +kernel
theorem d_M_lose_19 : decode prog_14_method_42_code 19 = .ok (.iload_n 1, 1) := by decide +kernel
theorem d_M_lose_20 : decode prog_14_method_42_code 20 = .ok (.iconst 2, 1) := by decide +kernel
theorem d_M_lose_21 : decode prog_14_method_42_code 21 = .ok (.iastore, 1) := by decide +kernel
theorem d_M_lose_22 : decode prog_14_method_42_code 22 = .ok (.iconst 1, 1) := by decide +kernel
theorem d_M_lose_23 : decode prog_14_method_42_code 23 = .ok (.ireturn, 1) := by decide +kernel
theorem d_M_lose_13 : decode prog_14_method_42_code 13 = .ok (.iconst 0, 1) := by decide +kernel
theorem d_M_lose_14 : decode prog_14_method_42_code 14 = .ok (.ireturn, 1) := by decide +kernel
theorem d_M_again_0 : decode prog_14_method_43_code 0 = .ok (.aload_n 0, 1) := by decide +kernel
theorem d_M_again_1 : decode prog_14_method_43_code 1 = .ok (.iconst 0, 1) := by decide +kernel
theorem d_M_again_2 : decode prog_14_method_43_code 2 = .ok (.putfield 132, 3) := by decide +kernel
theorem d_M_again_5 : decode prog_14_method_43_code 5 = .ok (.iload_n 2, 1) := by decide +kernel
theorem d_M_again_6 : decode prog_14_method_43_code 6 = .ok (.invokestatic 280, 3) := by decide +kernel
theorem d_M_again_9 : decode prog_14_method_43_code 9 = .ok (.ifCond .eq 34, 3) := by decide +kernel
theorem d_M_again_43 : decode prog_14_method_43_code 43 = .ok (.iconst (-1), 1) := by decide +kernel
theorem d_M_again_44 : decode prog_14_method_43_code 44 = .ok (.ireturn, 1) := by decide +kernel
theorem d_M_again_12 : decode prog_14_method_43_code 12 = .ok (.iload_n 3, 1) := by decide +kernel
theorem d_M_again_13 : decode prog_14_method_43_code 13 = .ok (.invokestatic 280, 3) := by decide +kernel
theorem d_M_again_16 : decode prog_14_method_43_code 16 = .ok (.ifCond .eq 27, 3) := by decide +kernel
theorem d_M_again_19 : decode prog_14_method_43_code 19 = .ok (.iload_n 2, 1) := by decide +kernel
theorem d_M_again_20 : decode prog_14_method_43_code 20 = .ok (.iload_n 3, 1) := by decide +kernel
theorem d_M_again_21 : decode prog_14_method_43_code 21 = .ok (.if_icmp .eq 22, 3) := by decide +kernel
theorem d_M_again_24 : decode prog_14_method_43_code 24 = .ok (.aload_n 0, 1) := by decide +kernel
theorem d_M_again_25 : decode prog_14_method_43_code 25 = .ok (.iload_n 2, 1) := by decide +kernel
theorem d_M_again_26 : decode prog_14_method_43_code 26 = .ok (.iload_n 1, 1) := by decide +kernel
theorem d_M_again_27 : decode prog_14_method_43_code 27 = .ok (.invokevirtual 312, 3) := by decide +kernel
theorem d_M_again_30 : decode prog_14_method_43_code 30 = .ok (.ifCond .eq 13, 3) := by decide +kernel
theorem d_M_again_33 : decode prog_14_method_43_code 33 = .ok (.aload_n 0, 1) := by decide +kernel
theorem d_M_again_34 : decode prog_14_method_43_code 34 = .ok (.getfield 292, 3) := by decide +kernel
theorem d_M_again_37 : decode prog_14_method_43_code 37 = .ok (.sipush 150, 3) := by decide +kernel
theorem d_M_again_40 : decode prog_14_method_43_code 40 = .ok (.if_icmp .ne 5, 3) := by decide +kernel
theorem d_M_again_45 : decode prog_14_method_43_code 45 = .ok (.aload_n 0, 1) := by decide +kernel
theorem d_M_again_46 : decode prog_14_method_43_code 46 = .ok (.iload_n 1, 1) := by decide +kernel
theorem d_M_again_47 : decode prog_14_method_43_code 47 = .ok (.iload_n 2, 1) := by decide +kernel
theorem d_M_again_48 : decode prog_14_method_43_code 48 = .ok (.iload_n 3, 1) := by decide +kernel
theorem d_M_again_49 : decode prog_14_method_43_code 49 = .ok (.invokevirtual 302, 3) := by decide +kernel
theorem d_M_again_52 : decode prog_14_method_43_code 52 = .ok (.aload_n 0, 1) := by decide +kernel
theorem d_M_again_53 : decode prog_14_method_43_code 53 = .ok (.getfield 292, 3) := by decide +kernel
theorem d_M_again_56 : decode prog_14_method_43_code 56 = .ok (.iconst 1, 1) := by decide +kernel
theorem d_M_again_57 : decode prog_14_method_43_code 57 = .ok (.isub, 1) := by decide +kernel
theorem d_M_again_58 : decode prog_14_method_43_code 58 = .ok (.ireturn, 1) := by decide +kernel
theorem d_M_split_0 : decode prog_14_method_44_code 0 = .ok (.aload_n 0, 1) := by decide +kernel
theorem d_M_split_1 : decode prog_14_method_44_code 1 = .ok (.iconst 0, 1) := by decide +kernel
theorem d_M_split_2 : decode prog_14_method_44_code 2 = .ok (.putfield 132, 3) := by decide +kernel
theorem d_M_split_5 : decode prog_14_method_44_code 5 = .ok (.iload_n 1, 1) := by decide +kernel
theorem d_M_split_6 : decode prog_14_method_44_code 6 = .ok (.ifCond .lt 25, 3) := by decide +kernel
theorem d_M_split_31 : decode prog_14_method_44_code 31 = .ok (.iconst 0, 1) := by decide +kernel
theorem d_M_split_32 : decode prog_14_method_44_code 32 = .ok (.ireturn, 1) := by decide +kernel
theorem d_M_split_9 : decode prog_14_method_44_code 9 = .ok (.iload_n 1, 1) := by decide +kernel
theorem d_M_split_10 : decode prog_14_method_44_code 10 = .ok (.bipush 63, 2) := by decide +kernel
theorem d_M_split_12 : decode prog_14_method_44_code 12 = .ok (.if_icmp .gt 19, 3) := by decide +kernel
theorem d_M_split_15 : decode prog_14_method_44_code 15 = .ok (.iload_n 2, 1) := by decide +kernel
theorem d_M_split_16 : decode prog_14_method_44_code 16 = .ok (.ifCond .lt 15, 3) := by decide +kernel
theorem d_M_split_19 : decode prog_14_method_44_code 19 = .ok (.iload_n 3, 1) := by decide +kernel
theorem d_M_split_20 : decode prog_14_method_44_code 20 = .ok (.sipush 998, 3) := by decide +kernel
theorem d_M_split_23 : decode prog_14_method_44_code 23 = .ok (.if_icmp .gt 8, 3) := by decide +kernel
theorem d_M_split_26 : decode prog_14_method_44_code 26 = .ok (.iload_n 2, 1) := by decide +kernel
theorem d_M_split_27 : decode prog_14_method_44_code 27 = .ok (.iload_n 3, 1) := by decide +kernel
theorem d_M_split_28 : decode prog_14_method_44_code 28 = .ok (.if_icmp .le 5, 3) := by decide +kernel
theorem d_M_split_33 : decode prog_14_method_44_code 33 = .ok (.aload_n 0, 1) := by decide +kernel
theorem d_M_split_34 : decode prog_14_method_44_code 34 = .ok (.iload_n 1, 1) := by decide +kernel
theorem d_M_split_35 : decode prog_14_method_44_code 35 = .ok (.putfield 283, 3) := by decide +kernel
theorem d_M_split_38 : decode prog_14_method_44_code 38 = .ok (.aload_n 0, 1) := by decide +kernel
theorem d_M_split_39 : decode prog_14_method_44_code 39 = .ok (.iload_n 2, 1) := by decide +kernel
theorem d_M_split_40 : decode prog_14_method_44_code 40 = .ok (.putfield 286, 3) := by decide +kernel
theorem d_M_split_43 : decode prog_14_method_44_code 43 = .ok (.aload_n 0, 1) := by decide +kernel
theorem d_M_split_44 : decode prog_14_method_44_code 44 = .ok (.iload_n 3, 1) := by decide +kernel
theorem d_M_split_45 : decode prog_14_method_44_code 45 = .ok (.putfield 289, 3) := by decide +kernel
theorem d_M_split_48 : decode prog_14_method_44_code 48 = .ok (.iconst 1, 1) := by decide +kernel
theorem d_M_split_49 : decode prog_14_method_44_code 49 = .ok (.ireturn, 1) := by decide +kernel
theorem d_M_deskPlace_0 : decode prog_14_method_45_code 0 = .ok (.iconst 0, 1) := by decide +kernel
theorem d_M_deskPlace_1 : decode prog_14_method_45_code 1 = .ok (.istore_n 3, 1) := by decide +kernel
theorem d_M_deskPlace_2 : decode prog_14_method_45_code 2 = .ok (.iload_n 3, 1) := by decide +kernel
theorem d_M_deskPlace_3 : decode prog_14_method_45_code 3 = .ok (.aload_n 0, 1) := by decide +kernel
theorem d_M_deskPlace_4 : decode prog_14_method_45_code 4 = .ok (.getfield 99, 3) := by decide +kernel
theorem d_M_deskPlace_7 : decode prog_14_method_45_code 7 = .ok (.iload_n 1, 1) := by decide +kernel
theorem d_M_deskPlace_8 : decode prog_14_method_45_code 8 = .ok (.iaload, 1) := by decide +kernel
theorem d_M_deskPlace_9 : decode prog_14_method_45_code 9 = .ok (.if_icmp .ge 26, 3) := by decide +kernel
theorem d_M_deskPlace_12 : decode prog_14_method_45_code 12 = .ok (.aload_n 0, 1) := by decide +kernel
theorem d_M_deskPlace_13 : decode prog_14_method_45_code 13 = .ok (.getfield 96, 3) := by decide +kernel
theorem d_M_deskPlace_16 : decode prog_14_method_45_code 16 = .ok (.bipush 30, 2) := by decide +kernel
theorem d_M_deskPlace_18 : decode prog_14_method_45_code 18 = .ok (.iload_n 1, 1) := by decide +kernel
theorem d_M_deskPlace_19 : decode prog_14_method_45_code 19 = .ok (.imul, 1) := by decide +kernel
theorem d_M_deskPlace_20 : decode prog_14_method_45_code 20 = .ok (.iload_n 3, 1) := by decide +kernel
theorem d_M_deskPlace_21 : decode prog_14_method_45_code 21 = .ok (.iadd, 1) := by decide +kernel
theorem d_M_deskPlace_22 : decode prog_14_method_45_code 22 = .ok (.iaload, 1) := by decide +kernel
theorem d_M_deskPlace_23 : decode prog_14_method_45_code 23 = .ok (.iload_n 2, 1) := by decide +kernel
theorem d_M_deskPlace_24 : decode prog_14_method_45_code 24 = .ok (.if_icmp .ne 5, 3) := by decide +kernel
theorem d_M_deskPlace_29 : decode prog_14_method_45_code 29 = .ok (.iinc 3 1, 3) := by decide +kernel
theorem d_M_deskPlace_32 : decode prog_14_method_45_code 32 = .ok (.goto (-30), 3) := by decide +kernel
theorem d_M_deskPlace_27 : decode prog_14_method_45_code 27 = .ok (.iload_n 3, 1) := by decide +kernel
theorem d_M_deskPlace_28 : decode prog_14_method_45_code 28 = .ok (.ireturn, 1) := by decide +kernel
theorem d_M_deskPlace_35 : decode prog_14_method_45_code 35 = .ok (.iconst (-1), 1) := by decide +kernel
theorem d_M_deskPlace_36 : decode prog_14_method_45_code 36 = .ok (.ireturn, 1) := by decide +kernel
theorem d_M_waitsFor_0 : decode prog_14_method_46_code 0 = .ok (.iconst 0, 1) := by decide +kernel
theorem d_M_waitsFor_1 : decode prog_14_method_46_code 1 = .ok (.istore_n 3, 1) := by decide +kernel
theorem d_M_waitsFor_2 : decode prog_14_method_46_code 2 = .ok (.iconst 0, 1) := by decide +kernel
theorem d_M_waitsFor_3 : decode prog_14_method_46_code 3 = .ok (.istore 4, 2) := by decide +kernel
theorem d_M_waitsFor_5 : decode prog_14_method_46_code 5 = .ok (.iload 4, 2) := by decide +kernel
theorem d_M_waitsFor_7 : decode prog_14_method_46_code 7 = .ok (.iload_n 2, 1) := by decide +kernel
theorem d_M_waitsFor_8 : decode prog_14_method_46_code 8 = .ok (.if_icmp .ge 156, 3) := by decide +kernel
theorem d_M_waitsFor_11 : decode prog_14_method_46_code 11 = .ok (.aload_n 0, 1) := by decide +kernel
theorem d_M_waitsFor_12 : decode prog_14_method_46_code 12 = .ok (.getfield 29, 3) := by decide +kernel
theorem d_M_waitsFor_15 : decode prog_14_method_46_code 15 = .ok (.iload_n 1, 1) := by decide +kernel
theorem d_M_waitsFor_16 : decode prog_14_method_46_code 16 = .ok (.iaload, 1) := by decide +kernel
theorem d_M_waitsFor_17 : decode prog_14_method_46_code 17 = .ok (.iconst 2, 1) := by decide +kernel
theorem d_M_waitsFor_18 : decode prog_14_method_46_code 18 = .ok (.if_icmp .ne 27, 3) := by decide +kernel
theorem d_M_waitsFor_45 : decode prog_14_method_46_code 45 = .ok (.aload_n 0, 1) := by decide +kernel
theorem d_M_waitsFor_46 : decode prog_14_method_46_code 46 = .ok (.getfield 29, 3) := by decide +kernel
theorem d_M_waitsFor_49 : decode prog_14_method_46_code 49 = .ok (.iload_n 1, 1) := by decide +kernel
theorem d_M_waitsFor_50 : decode prog_14_method_46_code 50 = .ok (.iaload, 1) := by decide +kernel
theorem d_M_waitsFor_51 : decode prog_14_method_46_code 51 = .ok (.iconst 3, 1) := by decide +kernel
theorem d_M_waitsFor_52 : decode prog_14_method_46_code 52 = .ok (.if_icmp .ne 33, 3) := by decide +kernel
theorem d_M_waitsFor_85 : decode prog_14_method_46_code 85 = .ok (.aload_n 0, 1) := by decide +kernel
theorem d_M_waitsFor_86 : decode prog_14_method_46_code 86 = .ok (.getfield 29, 3) := by decide +kernel
theorem d_M_waitsFor_89 : decode prog_14_method_46_code 89 = .ok (.iload_n 1, 1) := by decide +kernel
theorem d_M_waitsFor_90 : decode prog_14_method_46_code 90 = .ok (.iaload, 1) := by decide +kernel
theorem d_M_waitsFor_91 : decode prog_14_method_46_code 91 = .ok (.iconst 4, 1) := by decide +kernel
theorem d_M_waitsFor_92 : decode prog_14_method_46_code 92 = .ok (.if_icmp .ne 22, 3) := by decide +kernel
theorem d_M_waitsFor_114 : decode prog_14_method_46_code 114 = .ok (.iconst 0, 1) := by decide +kernel
theorem d_M_waitsFor_115 : decode prog_14_method_46_code 115 = .ok (.istore 5, 2) := by decide +kernel
theorem d_M_waitsFor_117 : decode prog_14_method_46_code 117 = .ok (.iload 5, 2) := by decide +kernel
theorem d_M_waitsFor_119 : decode prog_14_method_46_code 119 = .ok (.ifCond .eq 39, 3) := by decide +kernel
theorem d_M_waitsFor_158 : decode prog_14_method_46_code 158 = .ok (.iinc 4 1, 3) := by decide +kernel
theorem d_M_waitsFor_161 : decode prog_14_method_46_code 161 = .ok (.goto (-156), 3) := by decide +kernel
theorem d_M_waitsFor_122 : decode prog_14_method_46_code 122 = .ok (.aload_n 0, 1) := by decide +kernel
theorem d_M_waitsFor_123 : decode prog_14_method_46_code 123 = .ok (.getfield 57, 3) := by decide +kernel
theorem d_M_waitsFor_126 : decode prog_14_method_46_code 126 = .ok (.iload 4, 2) := by decide +kernel
theorem d_M_waitsFor_128 : decode prog_14_method_46_code 128 = .ok (.iaload, 1) := by decide +kernel
theorem d_M_waitsFor_129 : decode prog_14_method_46_code 129 = .ok (.iload_n 1, 1) := by decide +kernel
theorem d_M_waitsFor_130 : decode prog_14_method_46_code 130 = .ok (.ishr, 1) := by decide +kernel
theorem d_M_waitsFor_131 : decode prog_14_method_46_code 131 = .ok (.iconst 1, 1) := by decide +kernel
theorem d_M_waitsFor_132 : decode prog_14_method_46_code 132 = .ok (.iand, 1) := by decide +kernel
theorem d_M_waitsFor_133 : decode prog_14_method_46_code 133 = .ok (.iconst 1, 1) := by decide +kernel
theorem d_M_waitsFor_134 : decode prog_14_method_46_code 134 = .ok (.if_icmp .ne 24, 3) := by decide +kernel
theorem d_M_waitsFor_137 : decode prog_14_method_46_code 137 = .ok (.aload_n 0, 1) := by decide +kernel
theorem d_M_waitsFor_138 : decode prog_14_method_46_code 138 = .ok (.getfield 90, 3) := by decide +kernel
theorem d_M_waitsFor_141 : decode prog_14_method_46_code 141 = .ok (.iload_n 1, 1) := by decide +kernel
theorem d_M_waitsFor_142 : decode prog_14_method_46_code 142 = .ok (.iaload, 1) := by decide +kernel
theorem d_M_waitsFor_143 : decode prog_14_method_46_code 143 = .ok (.iload 4, 2) := by decide +kernel
theorem d_M_waitsFor_145 : decode prog_14_method_46_code 145 = .ok (.ishr, 1) := by decide +kernel
theorem d_M_waitsFor_146 : decode prog_14_method_46_code 146 = .ok (.iconst 1, 1) := by decide +kernel
theorem d_M_waitsFor_147 : decode prog_14_method_46_code 147 = .ok (.iand, 1) := by decide +kernel
theorem d_M_waitsFor_148 : decode prog_14_method_46_code 148 = .ok (.ifCond .ne 10, 3) := by decide +kernel
theorem d_M_waitsFor_151 : decode prog_14_method_46_code 151 = .ok (.iload_n 3, 1) := by decide +kernel
theorem d_M_waitsFor_152 : decode prog_14_method_46_code 152 = .ok (.iconst 1, 1) := by decide +kernel
theorem d_M_waitsFor_153 : decode prog_14_method_46_code 153 = .ok (.iload 4, 2) := by decide +kernel
theorem d_M_waitsFor_155 : decode prog_14_method_46_code 155 = .ok (.ishl, 1) := by decide +kernel
theorem d_M_waitsFor_156 : decode prog_14_method_46_code 156 = .ok (.ior, 1) := by decide +kernel
theorem d_M_waitsFor_157 : decode prog_14_method_46_code 157 = .ok (.istore_n 3, 1) := by decide +kernel
theorem d_M_waitsFor_95 : decode prog_14_method_46_code 95 = .ok (.aload_n 0, 1) := by decide +kernel
theorem d_M_waitsFor_96 : decode prog_14_method_46_code 96 = .ok (.getfield 69, 3) := by decide +kernel
theorem d_M_waitsFor_99 : decode prog_14_method_46_code 99 = .ok (.iload_n 2, 1) := by decide +kernel
theorem d_M_waitsFor_100 : decode prog_14_method_46_code 100 = .ok (.iaload, 1) := by decide +kernel
theorem d_M_waitsFor_101 : decode prog_14_method_46_code 101 = .ok (.iload 4, 2) := by decide +kernel
theorem d_M_waitsFor_103 : decode prog_14_method_46_code 103 = .ok (.ishr, 1) := by decide +kernel
theorem d_M_waitsFor_104 : decode prog_14_method_46_code 104 = .ok (.iconst 1, 1) := by decide +kernel
theorem d_M_waitsFor_105 : decode prog_14_method_46_code 105 = .ok (.iand, 1) := by decide +kernel
theorem d_M_waitsFor_106 : decode prog_14_method_46_code 106 = .ok (.iconst 1, 1) := by decide +kernel
theorem d_M_waitsFor_107 : decode prog_14_method_46_code 107 = .ok (.if_icmp .ne 7, 3) := by decide +kernel
theorem d_M_waitsFor_110 : decode prog_14_method_46_code 110 = .ok (.iconst 1, 1) := by decide +kernel
theorem d_M_waitsFor_111 : decode prog_14_method_46_code 111 = .ok (.goto 4, 3) := by decide +kernel
theorem d_M_waitsFor_55 : decode prog_14_method_46_code 55 = .ok (.aload_n 0, 1) := by decide +kernel
theorem d_M_waitsFor_56 : decode prog_14_method_46_code 56 = .ok (.getfield 60, 3) := by decide +kernel
theorem d_M_waitsFor_59 : decode prog_14_method_46_code 59 = .ok (.iload_n 2, 1) := by decide +kernel
theorem d_M_waitsFor_60 : decode prog_14_method_46_code 60 = .ok (.iaload, 1) := by decide +kernel
theorem d_M_waitsFor_61 : decode prog_14_method_46_code 61 = .ok (.iload 4, 2) := by decide +kernel
theorem d_M_waitsFor_63 : decode prog_14_method_46_code 63 = .ok (.if_icmp .eq 14, 3) := by decide +kernel
theorem d_M_waitsFor_77 : decode prog_14_method_46_code 77 = .ok (.iconst 1, 1) := by decide +kernel
theorem d_M_waitsFor_78 : decode prog_14_method_46_code 78 = .ok (.goto 37, 3) := by decide +kernel
theorem d_M_waitsFor_66 : decode prog_14_method_46_code 66 = .ok (.aload_n 0, 1) := by decide +kernel
theorem d_M_waitsFor_67 : decode prog_14_method_46_code 67 = .ok (.getfield 63, 3) := by decide +kernel
theorem d_M_waitsFor_70 : decode prog_14_method_46_code 70 = .ok (.iload_n 2, 1) := by decide +kernel
theorem d_M_waitsFor_71 : decode prog_14_method_46_code 71 = .ok (.iaload, 1) := by decide +kernel
theorem d_M_waitsFor_72 : decode prog_14_method_46_code 72 = .ok (.iload 4, 2) := by decide +kernel
theorem d_M_waitsFor_74 : decode prog_14_method_46_code 74 = .ok (.if_icmp .ne 7, 3) := by decide +kernel
theorem d_M_waitsFor_81 : decode prog_14_method_46_code 81 = .ok (.iconst 0, 1) := by decide +kernel
theorem d_M_waitsFor_82 : decode prog_14_method_46_code 82 = .ok (.goto 33, 3) := by decide +kernel
theorem d_M_waitsFor_21 : decode prog_14_method_46_code 21 = .ok (.aload_n 0, 1) := by decide +kernel
theorem d_M_waitsFor_22 : decode prog_14_method_46_code 22 = .ok (.getfield 48, 3) := by decide +kernel
theorem d_M_waitsFor_25 : decode prog_14_method_46_code 25 = .ok (.iload 4, 2) := by decide +kernel
theorem d_M_waitsFor_27 : decode prog_14_method_46_code 27 = .ok (.iaload, 1) := by decide +kernel
theorem d_M_waitsFor_28 : decode prog_14_method_46_code 28 = .ok (.aload_n 0, 1) := by decide +kernel
theorem d_M_waitsFor_29 : decode prog_14_method_46_code 29 = .ok (.getfield 48, 3) := by decide +kernel
theorem d_M_waitsFor_32 : decode prog_14_method_46_code 32 = .ok (.iload_n 2, 1) := by decide +kernel
theorem d_M_waitsFor_33 : decode prog_14_method_46_code 33 = .ok (.iaload, 1) := by decide +kernel
theorem d_M_waitsFor_34 : decode prog_14_method_46_code 34 = .ok (.if_icmp .ne 7, 3) := by decide +kernel
theorem d_M_waitsFor_41 : decode prog_14_method_46_code 41 = .ok (.iconst 0, 1) := by decide +kernel
theorem d_M_waitsFor_42 : decode prog_14_method_46_code 42 = .ok (.goto 73, 3) := by decide +kernel
theorem d_M_waitsFor_37 : decode prog_14_method_46_code 37 = .ok (.iconst 1, 1) := by decide +kernel
theorem d_M_waitsFor_38 : decode prog_14_method_46_code 38 = .ok (.goto 77, 3) := by decide +kernel
theorem d_M_waitsFor_164 : decode prog_14_method_46_code 164 = .ok (.iload_n 3, 1) := by decide +kernel
theorem d_M_waitsFor_165 : decode prog_14_method_46_code 165 = .ok (.ireturn, 1) := by decide +kernel
theorem d_M_isBefore_0 : decode prog_14_method_55_code 0 = .ok (.aload_n 0, 1) := by decide +kernel
theorem d_M_isBefore_1 : decode prog_14_method_55_code 1 = .ok (.getfield 69, 3) := by decide +kernel
theorem d_M_isBefore_4 : decode prog_14_method_55_code 4 = .ok (.iload_n 2, 1) := by decide +kernel
theorem d_M_isBefore_5 : decode prog_14_method_55_code 5 = .ok (.iaload, 1) := by decide +kernel
theorem d_M_isBefore_6 : decode prog_14_method_55_code 6 = .ok (.iload_n 1, 1) := by decide +kernel
theorem d_M_isBefore_7 : decode prog_14_method_55_code 7 = .ok (.ishr, 1) := by decide +kernel
theorem d_M_isBefore_8 : decode prog_14_method_55_code 8 = .ok (.iconst 1, 1) := by decide +kernel
theorem d_M_isBefore_9 : decode prog_14_method_55_code 9 = .ok (.iand, 1) := by decide +kernel
theorem d_M_isBefore_10 : decode prog_14_method_55_code 10 = .ok (.iconst 1, 1) := by decide +kernel
theorem d_M_isBefore_11 : decode prog_14_method_55_code 11 = .ok (.if_icmp .ne 7, 3) := by decide +kernel
theorem d_M_isBefore_18 : decode prog_14_method_55_code 18 = .ok (.iconst 0, 1) := by decide +kernel
theorem d_M_isBefore_19 : decode prog_14_method_55_code 19 = .ok (.ireturn, 1) := by decide +kernel
theorem d_M_isBefore_14 : decode prog_14_method_55_code 14 = .ok (.iconst 1, 1) := by decide +kernel
theorem d_M_isBefore_15 : decode prog_14_method_55_code 15 = .ok (.goto 4, 3) := by decide +kernel
theorem d_M_sumOf_0 : decode prog_14_method_58_code 0 = .ok (.iconst 0, 1) := by decide +kernel
theorem d_M_sumOf_1 : decode prog_14_method_58_code 1 = .ok (.istore_n 2, 1) := by decide +kernel
theorem d_M_sumOf_2 : decode prog_14_method_58_code 2 = .ok (.iconst 0, 1) := by decide +kernel
theorem d_M_sumOf_3 : decode prog_14_method_58_code 3 = .ok (.istore_n 3, 1) := by decide +kernel
theorem d_M_sumOf_4 : decode prog_14_method_58_code 4 = .ok (.iload_n 3, 1) := by decide +kernel
theorem d_M_sumOf_5 : decode prog_14_method_58_code 5 = .ok (.iload_n 1, 1) := by decide +kernel
theorem d_M_sumOf_6 : decode prog_14_method_58_code 6 = .ok (.if_icmp .ge 85, 3) := by decide +kernel
theorem d_M_sumOf_9 : decode prog_14_method_58_code 9 = .ok (.aload_n 0, 1) := by decide +kernel
theorem d_M_sumOf_10 : decode prog_14_method_58_code 10 = .ok (.getfield 105, 3) := by decide +kernel
theorem d_M_sumOf_13 : decode prog_14_method_58_code 13 = .ok (.iload_n 3, 1) := by decide +kernel
theorem d_M_sumOf_14 : decode prog_14_method_58_code 14 = .ok (.iconst 1, 1) := by decide +kernel
theorem d_M_sumOf_15 : decode prog_14_method_58_code 15 = .ok (.iastore, 1) := by decide +kernel
theorem d_M_sumOf_16 : decode prog_14_method_58_code 16 = .ok (.iconst 0, 1) := by decide +kernel
theorem d_M_sumOf_17 : decode prog_14_method_58_code 17 = .ok (.istore 4, 2) := by decide +kernel
theorem d_M_sumOf_19 : decode prog_14_method_58_code 19 = .ok (.iload 4, 2) := by decide +kernel
theorem d_M_sumOf_21 : decode prog_14_method_58_code 21 = .ok (.iload_n 3, 1) := by decide +kernel
theorem d_M_sumOf_22 : decode prog_14_method_58_code 22 = .ok (.if_icmp .ge 43, 3) := by decide +kernel
theorem d_M_sumOf_25 : decode prog_14_method_58_code 25 = .ok (.aload_n 0, 1) := by decide +kernel
theorem d_M_sumOf_26 : decode prog_14_method_58_code 26 = .ok (.iload 4, 2) := by decide +kernel
theorem d_M_sumOf_28 : decode prog_14_method_58_code 28 = .ok (.iload_n 3, 1) := by decide +kernel
theorem d_M_sumOf_29 : decode prog_14_method_58_code 29 = .ok (.invokevirtual 350, 3) := by decide +kernel
theorem d_M_sumOf_32 : decode prog_14_method_58_code 32 = .ok (.ifCond .eq 27, 3) := by decide +kernel
theorem d_M_sumOf_59 : decode prog_14_method_58_code 59 = .ok (.iinc 4 1, 3) := by decide +kernel
theorem d_M_sumOf_62 : decode prog_14_method_58_code 62 = .ok (.goto (-43), 3) := by decide +kernel
theorem d_M_sumOf_35 : decode prog_14_method_58_code 35 = .ok (.aload_n 0, 1) := by decide +kernel
theorem d_M_sumOf_36 : decode prog_14_method_58_code 36 = .ok (.getfield 105, 3) := by decide +kernel
theorem d_M_sumOf_39 : decode prog_14_method_58_code 39 = .ok (.iload_n 3, 1) := by decide +kernel
theorem d_M_sumOf_40 : decode prog_14_method_58_code 40 = .ok (.aload_n 0, 1) := by decide +kernel
theorem d_M_sumOf_41 : decode prog_14_method_58_code 41 = .ok (.getfield 105, 3) := by decide +kernel
theorem d_M_sumOf_44 : decode prog_14_method_58_code 44 = .ok (.iload_n 3, 1) := by decide +kernel
theorem d_M_sumOf_45 : decode prog_14_method_58_code 45 = .ok (.iaload, 1) := by decide +kernel
theorem d_M_sumOf_46 : decode prog_14_method_58_code 46 = .ok (.aload_n 0, 1) := by decide +kernel
theorem d_M_sumOf_47 : decode prog_14_method_58_code 47 = .ok (.getfield 105, 3) := by decide +kernel
theorem d_M_sumOf_50 : decode prog_14_method_58_code 50 = .ok (.iload 4, 2) := by decide +kernel
theorem d_M_sumOf_52 : decode prog_14_method_58_code 52 = .ok (.iaload, 1) := by decide +kernel
theorem d_M_sumOf_53 : decode prog_14_method_58_code 53 = .ok (.iconst 1, 1) := by decide +kernel
theorem d_M_sumOf_54 : decode prog_14_method_58_code 54 = .ok (.iadd, 1) := by decide +kernel
theorem d_M_sumOf_55 : decode prog_14_method_58_code 55 = .ok (.invokestatic 358, 3) := by decide +kernel
theorem d_M_sumOf_58 : decode prog_14_method_58_code 58 = .ok (.iastore, 1) := by decide +kernel
theorem d_M_sumOf_65 : decode prog_14_method_58_code 65 = .ok (.aload_n 0, 1) := by decide +kernel
theorem d_M_sumOf_66 : decode prog_14_method_58_code 66 = .ok (.iload_n 3, 1) := by decide +kernel
theorem d_M_sumOf_67 : decode prog_14_method_58_code 67 = .ok (.iload_n 1, 1) := by decide +kernel
theorem d_M_sumOf_68 : decode prog_14_method_58_code 68 = .ok (.invokevirtual 350, 3) := by decide +kernel
theorem d_M_sumOf_71 : decode prog_14_method_58_code 71 = .ok (.ifCond .eq 14, 3) := by decide +kernel
theorem d_M_sumOf_85 : decode prog_14_method_58_code 85 = .ok (.iinc 3 1, 3) := by decide +kernel
theorem d_M_sumOf_88 : decode prog_14_method_58_code 88 = .ok (.goto (-84), 3) := by decide +kernel
theorem d_M_sumOf_74 : decode prog_14_method_58_code 74 = .ok (.iload_n 2, 1) := by decide +kernel
theorem d_M_sumOf_75 : decode prog_14_method_58_code 75 = .ok (.aload_n 0, 1) := by decide +kernel
theorem d_M_sumOf_76 : decode prog_14_method_58_code 76 = .ok (.getfield 105, 3) := by decide +kernel
theorem d_M_sumOf_79 : decode prog_14_method_58_code 79 = .ok (.iload_n 3, 1) := by decide +kernel
theorem d_M_sumOf_80 : decode prog_14_method_58_code 80 = .ok (.iaload, 1) := by decide +kernel
theorem d_M_sumOf_81 : decode prog_14_method_58_code 81 = .ok (.invokestatic 358, 3) := by decide +kernel
theorem d_M_sumOf_84 : decode prog_14_method_58_code 84 = .ok (.istore_n 2, 1) := by decide +kernel
theorem d_M_sumOf_91 : decode prog_14_method_58_code 91 = .ok (.iload_n 2, 1) := by decide +kernel
theorem d_M_sumOf_92 : decode prog_14_method_58_code 92 = .ok (.iconst 1, 1) := by decide +kernel
theorem d_M_sumOf_93 : decode prog_14_method_58_code 93 = .ok (.iadd, 1) := by decide +kernel
theorem d_M_sumOf_94 : decode prog_14_method_58_code 94 = .ok (.ireturn, 1) := by decide +kernel
theorem d_M_answers_0 : decode prog_14_method_48_code 0 = .ok (.aload_n 0, 1) := by decide +kernel
theorem d_M_answers_1 : decode prog_14_method_48_code 1 = .ok (.getfield 39, 3) := by decide +kernel
theorem d_M_answers_4 : decode prog_14_method_48_code 4 = .ok (.iconst 0, 1) := by decide +kernel
theorem d_M_answers_5 : decode prog_14_method_48_code 5 = .ok (.aload_n 0, 1) := by decide +kernel
theorem d_M_answers_6 : decode prog_14_method_48_code 6 = .ok (.getfield 48, 3) := by decide +kernel
theorem d_M_answers_9 : decode prog_14_method_48_code 9 = .ok (.iload_n 3, 1) := by decide +kernel
theorem d_M_answers_10 : decode prog_14_method_48_code 10 = .ok (.iaload, 1) := by decide +kernel
theorem d_M_answers_11 : decode prog_14_method_48_code 11 = .ok (.iastore, 1) := by decide +kernel
theorem d_M_answers_12 : decode prog_14_method_48_code 12 = .ok (.aload_n 0, 1) := by decide +kernel
theorem d_M_answers_13 : decode prog_14_method_48_code 13 = .ok (.getfield 39, 3) := by decide +kernel
theorem d_M_answers_16 : decode prog_14_method_48_code 16 = .ok (.iconst 1, 1) := by decide +kernel
theorem d_M_answers_17 : decode prog_14_method_48_code 17 = .ok (.aload_n 0, 1) := by decide +kernel
theorem d_M_answers_18 : decode prog_14_method_48_code 18 = .ok (.getfield 54, 3) := by decide +kernel
theorem d_M_answers_21 : decode prog_14_method_48_code 21 = .ok (.iload_n 3, 1) := by decide +kernel
theorem d_M_answers_22 : decode prog_14_method_48_code 22 = .ok (.iaload, 1) := by decide +kernel
theorem d_M_answers_23 : decode prog_14_method_48_code 23 = .ok (.iastore, 1) := by decide +kernel
theorem d_M_answers_24 : decode prog_14_method_48_code 24 = .ok (.aload_n 0, 1) := by decide +kernel
theorem d_M_answers_25 : decode prog_14_method_48_code 25 = .ok (.getfield 39, 3) := by decide +kernel
theorem d_M_answers_28 : decode prog_14_method_48_code 28 = .ok (.iconst 2, 1) := by decide +kernel
theorem d_M_answers_29 : decode prog_14_method_48_code 29 = .ok (.aload_n 0, 1) := by decide +kernel
theorem d_M_answers_30 : decode prog_14_method_48_code 30 = .ok (.getfield 295, 3) := by decide +kernel
theorem d_M_answers_33 : decode prog_14_method_48_code 33 = .ok (.aload_n 0, 1) := by decide +kernel
theorem d_M_answers_34 : decode prog_14_method_48_code 34 = .ok (.getfield 51, 3) := by decide +kernel
theorem d_M_answers_37 : decode prog_14_method_48_code 37 = .ok (.iload_n 3, 1) := by decide +kernel
theorem d_M_answers_38 : decode prog_14_method_48_code 38 = .ok (.iaload, 1) := by decide +kernel
theorem d_M_answers_39 : decode prog_14_method_48_code 39 = .ok (.isub, 1) := by decide +kernel
theorem d_M_answers_40 : decode prog_14_method_48_code 40 = .ok (.iastore, 1) := by decide +kernel
theorem d_M_answers_41 : decode prog_14_method_48_code 41 = .ok (.aload_n 0, 1) := by decide +kernel
theorem d_M_answers_42 : decode prog_14_method_48_code 42 = .ok (.getfield 39, 3) := by decide +kernel
theorem d_M_answers_45 : decode prog_14_method_48_code 45 = .ok (.iconst 3, 1) := by decide +kernel
theorem d_M_answers_46 : decode prog_14_method_48_code 46 = .ok (.aload_n 0, 1) := by decide +kernel
theorem d_M_answers_47 : decode prog_14_method_48_code 47 = .ok (.getfield 90, 3) := by decide +kernel
theorem d_M_answers_50 : decode prog_14_method_48_code 50 = .ok (.iload_n 2, 1) := by decide +kernel
theorem d_M_answers_51 : decode prog_14_method_48_code 51 = .ok (.iaload, 1) := by decide +kernel
theorem d_M_answers_52 : decode prog_14_method_48_code 52 = .ok (.invokestatic 306, 3) := by decide +kernel
theorem d_M_answers_55 : decode prog_14_method_48_code 55 = .ok (.iastore, 1) := by decide +kernel
theorem d_M_answers_56 : decode prog_14_method_48_code 56 = .ok (.aload_n 0, 1) := by decide +kernel
theorem d_M_answers_57 : decode prog_14_method_48_code 57 = .ok (.getfield 39, 3) := by decide +kernel
theorem d_M_answers_60 : decode prog_14_method_48_code 60 = .ok (.iconst 4, 1) := by decide +kernel
theorem d_M_answers_61 : decode prog_14_method_48_code 61 = .ok (.aload_n 0, 1) := by decide +kernel
theorem d_M_answers_62 : decode prog_14_method_48_code 62 = .ok (.iload_n 3, 1) := by decide +kernel
theorem d_M_answers_63 : decode prog_14_method_48_code 63 = .ok (.invokevirtual 335, 3) := by decide +kernel
theorem d_M_answers_66 : decode prog_14_method_48_code 66 = .ok (.iastore, 1) := by decide +kernel
theorem d_M_answers_67 : decode prog_14_method_48_code 67 = .ok (.aload_n 0, 1) := by decide +kernel
theorem d_M_answers_68 : decode prog_14_method_48_code 68 = .ok (.getfield 39, 3) := by decide +kernel
theorem d_M_answers_71 : decode prog_14_method_48_code 71 = .ok (.iconst 5, 1) := by decide +kernel
theorem d_M_answers_72 : decode prog_14_method_48_code 72 = .ok (.aload_n 0, 1) := by decide +kernel
theorem d_M_answers_73 : decode prog_14_method_48_code 73 = .ok (.getfield 60, 3) := by decide +kernel
theorem d_M_answers_76 : decode prog_14_method_48_code 76 = .ok (.iload_n 3, 1) := by decide +kernel
theorem d_M_answers_77 : decode prog_14_method_48_code 77 = .ok (.iaload, 1) := by decide +kernel
theorem d_M_answers_78 : decode prog_14_method_48_code 78 = .ok (.iconst (-1), 1) := by decide +kernel
theorem d_M_answers_79 : decode prog_14_method_48_code 79 = .ok (.if_icmp .eq 7, 3) := by decide +kernel
theorem d_M_answers_86 : decode prog_14_method_48_code 86 = .ok (.iconst 0, 1) := by decide +kernel
theorem d_M_answers_87 : decode prog_14_method_48_code 87 = .ok (.invokestatic 270, 3) := by decide +kernel
theorem d_M_answers_90 : decode prog_14_method_48_code 90 = .ok (.aload_n 0, 1) := by decide +kernel
theorem d_M_answers_91 : decode prog_14_method_48_code 91 = .ok (.getfield 63, 3) := by decide +kernel
theorem d_M_answers_94 : decode prog_14_method_48_code 94 = .ok (.iload_n 3, 1) := by decide +kernel
theorem d_M_answers_95 : decode prog_14_method_48_code 95 = .ok (.iaload, 1) := by decide +kernel
theorem d_M_answers_96 : decode prog_14_method_48_code 96 = .ok (.iconst (-1), 1) := by decide +kernel
theorem d_M_answers_97 : decode prog_14_method_48_code 97 = .ok (.if_icmp .eq 7, 3) := by decide +kernel
theorem d_M_answers_104 : decode prog_14_method_48_code 104 = .ok (.iconst 0, 1) := by decide +kernel
theorem d_M_answers_105 : decode prog_14_method_48_code 105 = .ok (.invokestatic 270, 3) := by decide +kernel
theorem d_M_answers_108 : decode prog_14_method_48_code 108 = .ok (.iadd, 1) := by decide +kernel
theorem d_M_answers_109 : decode prog_14_method_48_code 109 = .ok (.iastore, 1) := by decide +kernel
theorem d_M_answers_110 : decode prog_14_method_48_code 110 = .ok (.aload_n 0, 1) := by decide +kernel
theorem d_M_answers_111 : decode prog_14_method_48_code 111 = .ok (.getfield 39, 3) := by decide +kernel
theorem d_M_answers_114 : decode prog_14_method_48_code 114 = .ok (.bipush 6, 2) := by decide +kernel
theorem d_M_answers_116 : decode prog_14_method_48_code 116 = .ok (.iconst 0, 1) := by decide +kernel
theorem d_M_answers_117 : decode prog_14_method_48_code 117 = .ok (.iastore, 1) := by decide +kernel
theorem d_M_answers_118 : decode prog_14_method_48_code 118 = .ok (.iconst 0, 1) := by decide +kernel
theorem d_M_answers_119 : decode prog_14_method_48_code 119 = .ok (.istore 4, 2) := by decide +kernel
theorem d_M_answers_121 : decode prog_14_method_48_code 121 = .ok (.iload 4, 2) := by decide +kernel
theorem d_M_answers_123 : decode prog_14_method_48_code 123 = .ok (.aload_n 0, 1) := by decide +kernel
theorem d_M_answers_124 : decode prog_14_method_48_code 124 = .ok (.getfield 277, 3) := by decide +kernel
theorem d_M_answers_127 : decode prog_14_method_48_code 127 = .ok (.if_icmp .ge 38, 3) := by decide +kernel
theorem d_M_answers_130 : decode prog_14_method_48_code 130 = .ok (.aload_n 0, 1) := by decide +kernel
theorem d_M_answers_131 : decode prog_14_method_48_code 131 = .ok (.getfield 39, 3) := by decide +kernel
theorem d_M_answers_134 : decode prog_14_method_48_code 134 = .ok (.bipush 6, 2) := by decide +kernel
theorem d_M_answers_136 : decode prog_14_method_48_code 136 = .ok (.dup2, 1) := by decide +kernel
theorem d_M_answers_137 : decode prog_14_method_48_code 137 = .ok (.iaload, 1) := by decide +kernel
theorem d_M_answers_138 : decode prog_14_method_48_code 138 = .ok (.aload_n 0, 1) := by decide +kernel
theorem d_M_answers_139 : decode prog_14_method_48_code 139 = .ok (.getfield 48, 3) := by decide +kernel
theorem d_M_answers_142 : decode prog_14_method_48_code 142 = .ok (.iload 4, 2) := by decide +kernel
theorem d_M_answers_144 : decode prog_14_method_48_code 144 = .ok (.iaload, 1) := by decide +kernel
theorem d_M_answers_145 : decode prog_14_method_48_code 145 = .ok (.iload_n 2, 1) := by decide +kernel
theorem d_M_answers_146 : decode prog_14_method_48_code 146 = .ok (.if_icmp .ne 7, 3) := by decide +kernel
theorem d_M_answers_153 : decode prog_14_method_48_code 153 = .ok (.iconst 0, 1) := by decide +kernel
theorem d_M_answers_154 : decode prog_14_method_48_code 154 = .ok (.invokestatic 270, 3) := by decide +kernel
theorem d_M_answers_157 : decode prog_14_method_48_code 157 = .ok (.iadd, 1) := by decide +kernel
theorem d_M_answers_158 : decode prog_14_method_48_code 158 = .ok (.iastore, 1) := by decide +kernel
theorem d_M_answers_159 : decode prog_14_method_48_code 159 = .ok (.iinc 4 1, 3) := by decide +kernel
theorem d_M_answers_162 : decode prog_14_method_48_code 162 = .ok (.goto (-41), 3) := by decide +kernel
theorem d_M_answers_149 : decode prog_14_method_48_code 149 = .ok (.iconst 1, 1) := by decide +kernel
theorem d_M_answers_150 : decode prog_14_method_48_code 150 = .ok (.goto 4, 3) := by decide +kernel
theorem d_M_answers_165 : decode prog_14_method_48_code 165 = .ok (.aload_n 0, 1) := by decide +kernel
theorem d_M_answers_166 : decode prog_14_method_48_code 166 = .ok (.getfield 19, 3) := by decide +kernel
theorem d_M_answers_169 : decode prog_14_method_48_code 169 = .ok (.iload_n 1, 1) := by decide +kernel
theorem d_M_answers_170 : decode prog_14_method_48_code 170 = .ok (.baload, 1) := by decide +kernel
theorem d_M_answers_171 : decode prog_14_method_48_code 171 = .ok (.ifCond .eq 14, 3) := by decide +kernel
theorem d_M_answers_185 : decode prog_14_method_48_code 185 = .ok (.iconst 1, 1) := by decide +kernel
theorem d_M_answers_186 : decode prog_14_method_48_code 186 = .ok (.aload_n 0, 1) := by decide +kernel
theorem d_M_answers_187 : decode prog_14_method_48_code 187 = .ok (.getfield 48, 3) := by decide +kernel
theorem d_M_answers_190 : decode prog_14_method_48_code 190 = .ok (.iload_n 3, 1) := by decide +kernel
theorem d_M_answers_191 : decode prog_14_method_48_code 191 = .ok (.iaload, 1) := by decide +kernel
theorem d_M_answers_192 : decode prog_14_method_48_code 192 = .ok (.ishl, 1) := by decide +kernel
theorem d_M_answers_193 : decode prog_14_method_48_code 193 = .ok (.istore 4, 2) := by decide +kernel
theorem d_M_answers_195 : decode prog_14_method_48_code 195 = .ok (.aload_n 0, 1) := by decide +kernel
theorem d_M_answers_196 : decode prog_14_method_48_code 196 = .ok (.iload_n 1, 1) := by decide +kernel
theorem d_M_answers_197 : decode prog_14_method_48_code 197 = .ok (.invokevirtual 338, 3) := by decide +kernel
theorem d_M_answers_200 : decode prog_14_method_48_code 200 = .ok (.ifCond .eq 22, 3) := by decide +kernel
theorem d_M_answers_222 : decode prog_14_method_48_code 222 = .ok (.return_, 1) := by decide +kernel
theorem d_M_answers_203 : decode prog_14_method_48_code 203 = .ok (.aload_n 0, 1) := by decide +kernel
theorem d_M_answers_204 : decode prog_14_method_48_code 204 = .ok (.iload 4, 2) := by decide +kernel
theorem d_M_answers_206 : decode prog_14_method_48_code 206 = .ok (.invokevirtual 316, 3) := by decide +kernel
theorem d_M_answers_209 : decode prog_14_method_48_code 209 = .ok (.ifCond .eq 13, 3) := by decide +kernel
theorem d_M_answers_212 : decode prog_14_method_48_code 212 = .ok (.aload_n 0, 1) := by decide +kernel
theorem d_M_answers_213 : decode prog_14_method_48_code 213 = .ok (.iload_n 2, 1) := by decide +kernel
theorem d_M_answers_214 : decode prog_14_method_48_code 214 = .ok (.iload 4, 2) := by decide +kernel
theorem d_M_answers_216 : decode prog_14_method_48_code 216 = .ok (.iconst 0, 1) := by decide +kernel
theorem d_M_answers_217 : decode prog_14_method_48_code 217 = .ok (.iload_n 3, 1) := by decide +kernel
theorem d_M_answers_218 : decode prog_14_method_48_code 218 = .ok (.iconst (-1), 1) := by decide +kernel
theorem d_M_answers_219 : decode prog_14_method_48_code 219 = .ok (.invokevirtual 319, 3) := by decide +kernel
theorem d_M_answers_174 : decode prog_14_method_48_code 174 = .ok (.bipush 63, 2) := by decide +kernel
theorem d_M_answers_176 : decode prog_14_method_48_code 176 = .ok (.iconst 1, 1) := by decide +kernel
theorem d_M_answers_177 : decode prog_14_method_48_code 177 = .ok (.iload_n 2, 1) := by decide +kernel
theorem d_M_answers_178 : decode prog_14_method_48_code 178 = .ok (.ishl, 1) := by decide +kernel
theorem d_M_answers_179 : decode prog_14_method_48_code 179 = .ok (.iconst (-1), 1) := by decide +kernel
theorem d_M_answers_180 : decode prog_14_method_48_code 180 = .ok (.ixor, 1) := by decide +kernel
theorem d_M_answers_181 : decode prog_14_method_48_code 181 = .ok (.iand, 1) := by decide +kernel
theorem d_M_answers_182 : decode prog_14_method_48_code 182 = .ok (.goto 11, 3) := by decide +kernel
theorem d_M_answers_100 : decode prog_14_method_48_code 100 = .ok (.iconst 1, 1) := by decide +kernel
theorem d_M_answers_101 : decode prog_14_method_48_code 101 = .ok (.goto 4, 3) := by decide +kernel
theorem d_M_answers_82 : decode prog_14_method_48_code 82 = .ok (.iconst 1, 1) := by decide +kernel
theorem d_M_answers_83 : decode prog_14_method_48_code 83 = .ok (.goto 4, 3) := by decide +kernel
theorem d_M_readsNow_0 : decode prog_14_method_47_code 0 = .ok (.aload_n 0, 1) := by decide +kernel
theorem d_M_readsNow_1 : decode prog_14_method_47_code 1 = .ok (.iload_n 1, 1) := by decide +kernel
theorem d_M_readsNow_2 : decode prog_14_method_47_code 2 = .ok (.iload_n 2, 1) := by decide +kernel
theorem d_M_readsNow_3 : decode prog_14_method_47_code 3 = .ok (.invokevirtual 326, 3) := by decide +kernel
theorem d_M_readsNow_6 : decode prog_14_method_47_code 6 = .ok (.istore_n 3, 1) := by decide +kernel
theorem d_M_readsNow_7 : decode prog_14_method_47_code 7 = .ok (.aload_n 0, 1) := by decide +kernel
theorem d_M_readsNow_8 : decode prog_14_method_47_code 8 = .ok (.getfield 99, 3) := by decide +kernel
theorem d_M_readsNow_11 : decode prog_14_method_47_code 11 = .ok (.iload_n 1, 1) := by decide +kernel
theorem d_M_readsNow_12 : decode prog_14_method_47_code 12 = .ok (.dup2, 1) := by decide +kernel
theorem d_M_readsNow_13 : decode prog_14_method_47_code 13 = .ok (.iaload, 1) := by decide +kernel
theorem d_M_readsNow_14 : decode prog_14_method_47_code 14 = .ok (.iconst 1, 1) := by decide +kernel
theorem d_M_readsNow_15 : decode prog_14_method_47_code 15 = .ok (.isub, 1) := by decide +kernel
theorem d_M_readsNow_16 : decode prog_14_method_47_code 16 = .ok (.iastore, 1) := by decide +kernel
theorem d_M_readsNow_17 : decode prog_14_method_47_code 17 = .ok (.iload_n 3, 1) := by decide +kernel
theorem d_M_readsNow_18 : decode prog_14_method_47_code 18 = .ok (.istore 4, 2) := by decide +kernel
theorem d_M_readsNow_20 : decode prog_14_method_47_code 20 = .ok (.iload 4, 2) := by decide +kernel
theorem d_M_readsNow_22 : decode prog_14_method_47_code 22 = .ok (.aload_n 0, 1) := by decide +kernel
theorem d_M_readsNow_23 : decode prog_14_method_47_code 23 = .ok (.getfield 99, 3) := by decide +kernel
theorem d_M_readsNow_26 : decode prog_14_method_47_code 26 = .ok (.iload_n 1, 1) := by decide +kernel
theorem d_M_readsNow_27 : decode prog_14_method_47_code 27 = .ok (.iaload, 1) := by decide +kernel
theorem d_M_readsNow_28 : decode prog_14_method_47_code 28 = .ok (.if_icmp .ge 35, 3) := by decide +kernel
theorem d_M_readsNow_31 : decode prog_14_method_47_code 31 = .ok (.aload_n 0, 1) := by decide +kernel
theorem d_M_readsNow_32 : decode prog_14_method_47_code 32 = .ok (.getfield 96, 3) := by decide +kernel
theorem d_M_readsNow_35 : decode prog_14_method_47_code 35 = .ok (.bipush 30, 2) := by decide +kernel
theorem d_M_readsNow_37 : decode prog_14_method_47_code 37 = .ok (.iload_n 1, 1) := by decide +kernel
theorem d_M_readsNow_38 : decode prog_14_method_47_code 38 = .ok (.imul, 1) := by decide +kernel
theorem d_M_readsNow_39 : decode prog_14_method_47_code 39 = .ok (.iload 4, 2) := by decide +kernel
theorem d_M_readsNow_41 : decode prog_14_method_47_code 41 = .ok (.iadd, 1) := by decide +kernel
theorem d_M_readsNow_42 : decode prog_14_method_47_code 42 = .ok (.aload_n 0, 1) := by decide +kernel
theorem d_M_readsNow_43 : decode prog_14_method_47_code 43 = .ok (.getfield 96, 3) := by decide +kernel
theorem d_M_readsNow_46 : decode prog_14_method_47_code 46 = .ok (.bipush 30, 2) := by decide +kernel
theorem d_M_readsNow_48 : decode prog_14_method_47_code 48 = .ok (.iload_n 1, 1) := by decide +kernel
theorem d_M_readsNow_49 : decode prog_14_method_47_code 49 = .ok (.imul, 1) := by decide +kernel
theorem d_M_readsNow_50 : decode prog_14_method_47_code 50 = .ok (.iload 4, 2) := by decide +kernel
theorem d_M_readsNow_52 : decode prog_14_method_47_code 52 = .ok (.iadd, 1) := by decide +kernel
theorem d_M_readsNow_53 : decode prog_14_method_47_code 53 = .ok (.iconst 1, 1) := by decide +kernel
theorem d_M_readsNow_54 : decode prog_14_method_47_code 54 = .ok (.iadd, 1) := by decide +kernel
theorem d_M_readsNow_55 : decode prog_14_method_47_code 55 = .ok (.iaload, 1) := by decide +kernel
theorem d_M_readsNow_56 : decode prog_14_method_47_code 56 = .ok (.iastore, 1) := by decide +kernel
theorem d_M_readsNow_57 : decode prog_14_method_47_code 57 = .ok (.iinc 4 1, 3) := by decide +kernel
theorem d_M_readsNow_60 : decode prog_14_method_47_code 60 = .ok (.goto (-40), 3) := by decide +kernel
theorem d_M_readsNow_63 : decode prog_14_method_47_code 63 = .ok (.aload_n 0, 1) := by decide +kernel
theorem d_M_readsNow_64 : decode prog_14_method_47_code 64 = .ok (.getfield 90, 3) := by decide +kernel
theorem d_M_readsNow_67 : decode prog_14_method_47_code 67 = .ok (.iload_n 1, 1) := by decide +kernel
theorem d_M_readsNow_68 : decode prog_14_method_47_code 68 = .ok (.dup2, 1) := by decide +kernel
theorem d_M_readsNow_69 : decode prog_14_method_47_code 69 = .ok (.iaload, 1) := by decide +kernel
theorem d_M_readsNow_70 : decode prog_14_method_47_code 70 = .ok (.iconst 1, 1) := by decide +kernel
theorem d_M_readsNow_71 : decode prog_14_method_47_code 71 = .ok (.iload_n 2, 1) := by decide +kernel
theorem d_M_readsNow_72 : decode prog_14_method_47_code 72 = .ok (.ishl, 1) := by decide +kernel
theorem d_M_readsNow_73 : decode prog_14_method_47_code 73 = .ok (.ior, 1) := by decide +kernel
theorem d_M_readsNow_74 : decode prog_14_method_47_code 74 = .ok (.iastore, 1) := by decide +kernel
theorem d_M_readsNow_75 : decode prog_14_method_47_code 75 = .ok (.aload_n 0, 1) := by decide +kernel
theorem d_M_readsNow_76 : decode prog_14_method_47_code 76 = .ok (.getfield 93, 3) := by decide +kernel
theorem d_M_readsNow_79 : decode prog_14_method_47_code 79 = .ok (.bipush 30, 2) := by decide +kernel
theorem d_M_readsNow_81 : decode prog_14_method_47_code 81 = .ok (.iload_n 1, 1) := by decide +kernel
theorem d_M_readsNow_82 : decode prog_14_method_47_code 82 = .ok (.imul, 1) := by decide +kernel
theorem d_M_readsNow_83 : decode prog_14_method_47_code 83 = .ok (.iload_n 2, 1) := by decide +kernel
theorem d_M_readsNow_84 : decode prog_14_method_47_code 84 = .ok (.iadd, 1) := by decide +kernel
theorem d_M_readsNow_85 : decode prog_14_method_47_code 85 = .ok (.aload_n 0, 1) := by decide +kernel
theorem d_M_readsNow_86 : decode prog_14_method_47_code 86 = .ok (.getfield 295, 3) := by decide +kernel
theorem d_M_readsNow_89 : decode prog_14_method_47_code 89 = .ok (.iastore, 1) := by decide +kernel
theorem d_M_readsNow_90 : decode prog_14_method_47_code 90 = .ok (.aload_n 0, 1) := by decide +kernel
theorem d_M_readsNow_91 : decode prog_14_method_47_code 91 = .ok (.dup, 1) := by decide +kernel
theorem d_M_readsNow_92 : decode prog_14_method_47_code 92 = .ok (.getfield 330, 3) := by decide +kernel
theorem d_M_readsNow_95 : decode prog_14_method_47_code 95 = .ok (.iconst 1, 1) := by decide +kernel
theorem d_M_readsNow_96 : decode prog_14_method_47_code 96 = .ok (.iadd, 1) := by decide +kernel
theorem d_M_readsNow_97 : decode prog_14_method_47_code 97 = .ok (.putfield 330, 3) := by decide +kernel
theorem d_M_readsNow_100 : decode prog_14_method_47_code 100 = .ok (.iconst 0, 1) := by decide +kernel
theorem d_M_readsNow_101 : decode prog_14_method_47_code 101 = .ok (.istore 4, 2) := by decide +kernel
theorem d_M_readsNow_103 : decode prog_14_method_47_code 103 = .ok (.iload 4, 2) := by decide +kernel
theorem d_M_readsNow_105 : decode prog_14_method_47_code 105 = .ok (.aload_n 0, 1) := by decide +kernel
theorem d_M_readsNow_106 : decode prog_14_method_47_code 106 = .ok (.getfield 261, 3) := by decide +kernel
theorem d_M_readsNow_109 : decode prog_14_method_47_code 109 = .ok (.if_icmp .ge 42, 3) := by decide +kernel
theorem d_M_readsNow_112 : decode prog_14_method_47_code 112 = .ok (.aload_n 0, 1) := by decide +kernel
theorem d_M_readsNow_113 : decode prog_14_method_47_code 113 = .ok (.getfield 23, 3) := by decide +kernel
theorem d_M_readsNow_116 : decode prog_14_method_47_code 116 = .ok (.iload 4, 2) := by decide +kernel
theorem d_M_readsNow_118 : decode prog_14_method_47_code 118 = .ok (.iaload, 1) := by decide +kernel
theorem d_M_readsNow_119 : decode prog_14_method_47_code 119 = .ok (.ifCond .eq 18, 3) := by decide +kernel
theorem d_M_readsNow_137 : decode prog_14_method_47_code 137 = .ok (.aload_n 0, 1) := by decide +kernel
theorem d_M_readsNow_138 : decode prog_14_method_47_code 138 = .ok (.iload 4, 2) := by decide +kernel
theorem d_M_readsNow_140 : decode prog_14_method_47_code 140 = .ok (.iload_n 1, 1) := by decide +kernel
theorem d_M_readsNow_141 : decode prog_14_method_47_code 141 = .ok (.iload_n 2, 1) := by decide +kernel
theorem d_M_readsNow_142 : decode prog_14_method_47_code 142 = .ok (.invokevirtual 332, 3) := by decide +kernel
theorem d_M_readsNow_145 : decode prog_14_method_47_code 145 = .ok (.iinc 4 1, 3) := by decide +kernel
theorem d_M_readsNow_148 : decode prog_14_method_47_code 148 = .ok (.goto (-45), 3) := by decide +kernel
theorem d_M_readsNow_122 : decode prog_14_method_47_code 122 = .ok (.aload_n 0, 1) := by decide +kernel
theorem d_M_readsNow_123 : decode prog_14_method_47_code 123 = .ok (.getfield 23, 3) := by decide +kernel
theorem d_M_readsNow_126 : decode prog_14_method_47_code 126 = .ok (.iload 4, 2) := by decide +kernel
theorem d_M_readsNow_128 : decode prog_14_method_47_code 128 = .ok (.iaload, 1) := by decide +kernel
theorem d_M_readsNow_129 : decode prog_14_method_47_code 129 = .ok (.iload_n 1, 1) := by decide +kernel
theorem d_M_readsNow_130 : decode prog_14_method_47_code 130 = .ok (.ishr, 1) := by decide +kernel
theorem d_M_readsNow_131 : decode prog_14_method_47_code 131 = .ok (.iconst 1, 1) := by decide +kernel
theorem d_M_readsNow_132 : decode prog_14_method_47_code 132 = .ok (.iand, 1) := by decide +kernel
theorem d_M_readsNow_133 : decode prog_14_method_47_code 133 = .ok (.iconst 1, 1) := by decide +kernel
theorem d_M_readsNow_134 : decode prog_14_method_47_code 134 = .ok (.if_icmp .ne 11, 3) := by decide +kernel
theorem d_M_readsNow_151 : decode prog_14_method_47_code 151 = .ok (.return_, 1) := by decide +kernel
theorem d_M_goesBy_0 : decode prog_14_method_49_code 0 = .ok (.aload_n 0, 1) := by decide +kernel
theorem d_M_goesBy_1 : decode prog_14_method_49_code 1 = .ok (.dup, 1) := by decide +kernel
theorem d_M_goesBy_2 : decode prog_14_method_49_code 2 = .ok (.getfield 295, 3) := by decide +kernel
theorem d_M_goesBy_5 : decode prog_14_method_49_code 5 = .ok (.iconst 1, 1) := by decide +kernel
theorem d_M_goesBy_6 : decode prog_14_method_49_code 6 = .ok (.iadd, 1) := by decide +kernel
theorem d_M_goesBy_7 : decode prog_14_method_49_code 7 = .ok (.putfield 295, 3) := by decide +kernel
theorem d_M_goesBy_10 : decode prog_14_method_49_code 10 = .ok (.iconst 0, 1) := by decide +kernel
theorem d_M_goesBy_11 : decode prog_14_method_49_code 11 = .ok (.istore_n 1, 1) := by decide +kernel
theorem d_M_goesBy_12 : decode prog_14_method_49_code 12 = .ok (.iload_n 1, 1) := by decide +kernel
theorem d_M_goesBy_13 : decode prog_14_method_49_code 13 = .ok (.aload_n 0, 1) := by decide +kernel
theorem d_M_goesBy_14 : decode prog_14_method_49_code 14 = .ok (.getfield 292, 3) := by decide +kernel
theorem d_M_goesBy_17 : decode prog_14_method_49_code 17 = .ok (.if_icmp .ge 117, 3) := by decide +kernel
theorem d_M_goesBy_20 : decode prog_14_method_49_code 20 = .ok (.aload_n 0, 1) := by decide +kernel
theorem d_M_goesBy_21 : decode prog_14_method_49_code 21 = .ok (.getfield 87, 3) := by decide +kernel
theorem d_M_goesBy_24 : decode prog_14_method_49_code 24 = .ok (.iload_n 1, 1) := by decide +kernel
theorem d_M_goesBy_25 : decode prog_14_method_49_code 25 = .ok (.iaload, 1) := by decide +kernel
theorem d_M_goesBy_26 : decode prog_14_method_49_code 26 = .ok (.ifCond .ne 102, 3) := by decide +kernel
theorem d_M_goesBy_128 : decode prog_14_method_49_code 128 = .ok (.iinc 1 1, 3) := by decide +kernel
theorem d_M_goesBy_131 : decode prog_14_method_49_code 131 = .ok (.goto (-119), 3) := by decide +kernel
theorem d_M_goesBy_29 : decode prog_14_method_49_code 29 = .ok (.aload_n 0, 1) := by decide +kernel
theorem d_M_goesBy_30 : decode prog_14_method_49_code 30 = .ok (.getfield 84, 3) := by decide +kernel
theorem d_M_goesBy_33 : decode prog_14_method_49_code 33 = .ok (.iload_n 1, 1) := by decide +kernel
theorem d_M_goesBy_34 : decode prog_14_method_49_code 34 = .ok (.iaload, 1) := by decide +kernel
theorem d_M_goesBy_35 : decode prog_14_method_49_code 35 = .ok (.aload_n 0, 1) := by decide +kernel
theorem d_M_goesBy_36 : decode prog_14_method_49_code 36 = .ok (.getfield 295, 3) := by decide +kernel
theorem d_M_goesBy_39 : decode prog_14_method_49_code 39 = .ok (.if_icmp .eq 6, 3) := by decide +kernel
theorem d_M_goesBy_45 : decode prog_14_method_49_code 45 = .ok (.aload_n 0, 1) := by decide +kernel
theorem d_M_goesBy_46 : decode prog_14_method_49_code 46 = .ok (.getfield 87, 3) := by decide +kernel
theorem d_M_goesBy_49 : decode prog_14_method_49_code 49 = .ok (.iload_n 1, 1) := by decide +kernel
theorem d_M_goesBy_50 : decode prog_14_method_49_code 50 = .ok (.iconst 1, 1) := by decide +kernel
theorem d_M_goesBy_51 : decode prog_14_method_49_code 51 = .ok (.iastore, 1) := by decide +kernel
theorem d_M_goesBy_52 : decode prog_14_method_49_code 52 = .ok (.aload_n 0, 1) := by decide +kernel
theorem d_M_goesBy_53 : decode prog_14_method_49_code 53 = .ok (.getfield 81, 3) := by decide +kernel
theorem d_M_goesBy_56 : decode prog_14_method_49_code 56 = .ok (.iload_n 1, 1) := by decide +kernel
theorem d_M_goesBy_57 : decode prog_14_method_49_code 57 = .ok (.iaload, 1) := by decide +kernel
theorem d_M_goesBy_58 : decode prog_14_method_49_code 58 = .ok (.istore_n 2, 1) := by decide +kernel
theorem d_M_goesBy_59 : decode prog_14_method_49_code 59 = .ok (.aload_n 0, 1) := by decide +kernel
theorem d_M_goesBy_60 : decode prog_14_method_49_code 60 = .ok (.getfield 90, 3) := by decide +kernel
theorem d_M_goesBy_63 : decode prog_14_method_49_code 63 = .ok (.iload_n 2, 1) := by decide +kernel
theorem d_M_goesBy_64 : decode prog_14_method_49_code 64 = .ok (.iaload, 1) := by decide +kernel
theorem d_M_goesBy_65 : decode prog_14_method_49_code 65 = .ok (.aload_n 0, 1) := by decide +kernel
theorem d_M_goesBy_66 : decode prog_14_method_49_code 66 = .ok (.getfield 75, 3) := by decide +kernel
theorem d_M_goesBy_69 : decode prog_14_method_49_code 69 = .ok (.iload_n 1, 1) := by decide +kernel
theorem d_M_goesBy_70 : decode prog_14_method_49_code 70 = .ok (.iaload, 1) := by decide +kernel
theorem d_M_goesBy_71 : decode prog_14_method_49_code 71 = .ok (.ishr, 1) := by decide +kernel
theorem d_M_goesBy_72 : decode prog_14_method_49_code 72 = .ok (.iconst 1, 1) := by decide +kernel
theorem d_M_goesBy_73 : decode prog_14_method_49_code 73 = .ok (.iand, 1) := by decide +kernel
theorem d_M_goesBy_74 : decode prog_14_method_49_code 74 = .ok (.iconst 1, 1) := by decide +kernel
theorem d_M_goesBy_75 : decode prog_14_method_49_code 75 = .ok (.if_icmp .eq 53, 3) := by decide +kernel
theorem d_M_goesBy_78 : decode prog_14_method_49_code 78 = .ok (.aload_n 0, 1) := by decide +kernel
theorem d_M_goesBy_79 : decode prog_14_method_49_code 79 = .ok (.iload_n 2, 1) := by decide +kernel
theorem d_M_goesBy_80 : decode prog_14_method_49_code 80 = .ok (.aload_n 0, 1) := by decide +kernel
theorem d_M_goesBy_81 : decode prog_14_method_49_code 81 = .ok (.getfield 75, 3) := by decide +kernel
theorem d_M_goesBy_84 : decode prog_14_method_49_code 84 = .ok (.iload_n 1, 1) := by decide +kernel
theorem d_M_goesBy_85 : decode prog_14_method_49_code 85 = .ok (.iaload, 1) := by decide +kernel
theorem d_M_goesBy_86 : decode prog_14_method_49_code 86 = .ok (.invokevirtual 326, 3) := by decide +kernel
theorem d_M_goesBy_89 : decode prog_14_method_49_code 89 = .ok (.iconst (-1), 1) := by decide +kernel
theorem d_M_goesBy_90 : decode prog_14_method_49_code 90 = .ok (.if_icmp .eq 6, 3) := by decide +kernel
theorem d_M_goesBy_96 : decode prog_14_method_49_code 96 = .ok (.aload_n 0, 1) := by decide +kernel
theorem d_M_goesBy_97 : decode prog_14_method_49_code 97 = .ok (.getfield 96, 3) := by decide +kernel
theorem d_M_goesBy_100 : decode prog_14_method_49_code 100 = .ok (.bipush 30, 2) := by decide +kernel
theorem d_M_goesBy_102 : decode prog_14_method_49_code 102 = .ok (.iload_n 2, 1) := by decide +kernel
theorem d_M_goesBy_103 : decode prog_14_method_49_code 103 = .ok (.imul, 1) := by decide +kernel
theorem d_M_goesBy_104 : decode prog_14_method_49_code 104 = .ok (.aload_n 0, 1) := by decide +kernel
theorem d_M_goesBy_105 : decode prog_14_method_49_code 105 = .ok (.getfield 99, 3) := by decide +kernel
theorem d_M_goesBy_108 : decode prog_14_method_49_code 108 = .ok (.iload_n 2, 1) := by decide +kernel
theorem d_M_goesBy_109 : decode prog_14_method_49_code 109 = .ok (.iaload, 1) := by decide +kernel
theorem d_M_goesBy_110 : decode prog_14_method_49_code 110 = .ok (.iadd, 1) := by decide +kernel
theorem d_M_goesBy_111 : decode prog_14_method_49_code 111 = .ok (.aload_n 0, 1) := by decide +kernel
theorem d_M_goesBy_112 : decode prog_14_method_49_code 112 = .ok (.getfield 75, 3) := by decide +kernel
theorem d_M_goesBy_115 : decode prog_14_method_49_code 115 = .ok (.iload_n 1, 1) := by decide +kernel
theorem d_M_goesBy_116 : decode prog_14_method_49_code 116 = .ok (.iaload, 1) := by decide +kernel
theorem d_M_goesBy_117 : decode prog_14_method_49_code 117 = .ok (.iastore, 1) := by decide +kernel
theorem d_M_goesBy_118 : decode prog_14_method_49_code 118 = .ok (.aload_n 0, 1) := by decide +kernel
theorem d_M_goesBy_119 : decode prog_14_method_49_code 119 = .ok (.getfield 99, 3) := by decide +kernel
theorem d_M_goesBy_122 : decode prog_14_method_49_code 122 = .ok (.iload_n 2, 1) := by decide +kernel
theorem d_M_goesBy_123 : decode prog_14_method_49_code 123 = .ok (.dup2, 1) := by decide +kernel
theorem d_M_goesBy_124 : decode prog_14_method_49_code 124 = .ok (.iaload, 1) := by decide +kernel
theorem d_M_goesBy_125 : decode prog_14_method_49_code 125 = .ok (.iconst 1, 1) := by decide +kernel
theorem d_M_goesBy_126 : decode prog_14_method_49_code 126 = .ok (.iadd, 1) := by decide +kernel
theorem d_M_goesBy_127 : decode prog_14_method_49_code 127 = .ok (.iastore, 1) := by decide +kernel
theorem d_M_goesBy_93 : decode prog_14_method_49_code 93 = .ok (.goto 35, 3) := by decide +kernel
theorem d_M_goesBy_42 : decode prog_14_method_49_code 42 = .ok (.goto 86, 3) := by decide +kernel
theorem d_M_goesBy_134 : decode prog_14_method_49_code 134 = .ok (.iconst 0, 1) := by decide +kernel
theorem d_M_goesBy_135 : decode prog_14_method_49_code 135 = .ok (.istore_n 1, 1) := by decide +kernel
theorem d_M_goesBy_136 : decode prog_14_method_49_code 136 = .ok (.iload_n 1, 1) := by decide +kernel
theorem d_M_goesBy_137 : decode prog_14_method_49_code 137 = .ok (.bipush 6, 2) := by decide +kernel
theorem d_M_goesBy_139 : decode prog_14_method_49_code 139 = .ok (.if_icmp .ge 68, 3) := by decide +kernel
theorem d_M_goesBy_142 : decode prog_14_method_49_code 142 = .ok (.iconst 0, 1) := by decide +kernel
theorem d_M_goesBy_143 : decode prog_14_method_49_code 143 = .ok (.istore_n 2, 1) := by decide +kernel
theorem d_M_goesBy_144 : decode prog_14_method_49_code 144 = .ok (.iload_n 2, 1) := by decide +kernel
theorem d_M_goesBy_145 : decode prog_14_method_49_code 145 = .ok (.aload_n 0, 1) := by decide +kernel
theorem d_M_goesBy_146 : decode prog_14_method_49_code 146 = .ok (.getfield 99, 3) := by decide +kernel
theorem d_M_goesBy_149 : decode prog_14_method_49_code 149 = .ok (.iload_n 1, 1) := by decide +kernel
theorem d_M_goesBy_150 : decode prog_14_method_49_code 150 = .ok (.iaload, 1) := by decide +kernel
theorem d_M_goesBy_151 : decode prog_14_method_49_code 151 = .ok (.if_icmp .ge 50, 3) := by decide +kernel
theorem d_M_goesBy_154 : decode prog_14_method_49_code 154 = .ok (.aload_n 0, 1) := by decide +kernel
theorem d_M_goesBy_155 : decode prog_14_method_49_code 155 = .ok (.getfield 96, 3) := by decide +kernel
theorem d_M_goesBy_158 : decode prog_14_method_49_code 158 = .ok (.bipush 30, 2) := by decide +kernel
theorem d_M_goesBy_160 : decode prog_14_method_49_code 160 = .ok (.iload_n 1, 1) := by decide +kernel
theorem d_M_goesBy_161 : decode prog_14_method_49_code 161 = .ok (.imul, 1) := by decide +kernel
theorem d_M_goesBy_162 : decode prog_14_method_49_code 162 = .ok (.iload_n 2, 1) := by decide +kernel
theorem d_M_goesBy_163 : decode prog_14_method_49_code 163 = .ok (.iadd, 1) := by decide +kernel
theorem d_M_goesBy_164 : decode prog_14_method_49_code 164 = .ok (.iaload, 1) := by decide +kernel
theorem d_M_goesBy_165 : decode prog_14_method_49_code 165 = .ok (.istore_n 3, 1) := by decide +kernel
theorem d_M_goesBy_166 : decode prog_14_method_49_code 166 = .ok (.aload_n 0, 1) := by decide +kernel
theorem d_M_goesBy_167 : decode prog_14_method_49_code 167 = .ok (.getfield 29, 3) := by decide +kernel
theorem d_M_goesBy_170 : decode prog_14_method_49_code 170 = .ok (.iload_n 1, 1) := by decide +kernel
theorem d_M_goesBy_171 : decode prog_14_method_49_code 171 = .ok (.iaload, 1) := by decide +kernel
theorem d_M_goesBy_172 : decode prog_14_method_49_code 172 = .ok (.ifCond .eq 12, 3) := by decide +kernel
theorem d_M_goesBy_184 : decode prog_14_method_49_code 184 = .ok (.iinc 2 1, 3) := by decide +kernel
theorem d_M_goesBy_187 : decode prog_14_method_49_code 187 = .ok (.goto 11, 3) := by decide +kernel
theorem d_M_goesBy_198 : decode prog_14_method_49_code 198 = .ok (.goto (-54), 3) := by decide +kernel
theorem d_M_goesBy_175 : decode prog_14_method_49_code 175 = .ok (.aload_n 0, 1) := by decide +kernel
theorem d_M_goesBy_176 : decode prog_14_method_49_code 176 = .ok (.iload_n 1, 1) := by decide +kernel
theorem d_M_goesBy_177 : decode prog_14_method_49_code 177 = .ok (.iload_n 3, 1) := by decide +kernel
theorem d_M_goesBy_178 : decode prog_14_method_49_code 178 = .ok (.invokevirtual 341, 3) := by decide +kernel
theorem d_M_goesBy_181 : decode prog_14_method_49_code 181 = .ok (.ifCond .eq 9, 3) := by decide +kernel
theorem d_M_goesBy_190 : decode prog_14_method_49_code 190 = .ok (.aload_n 0, 1) := by decide +kernel
theorem d_M_goesBy_191 : decode prog_14_method_49_code 191 = .ok (.iload_n 1, 1) := by decide +kernel
theorem d_M_goesBy_192 : decode prog_14_method_49_code 192 = .ok (.iload_n 3, 1) := by decide +kernel
theorem d_M_goesBy_193 : decode prog_14_method_49_code 193 = .ok (.invokevirtual 344, 3) := by decide +kernel
theorem d_M_goesBy_196 : decode prog_14_method_49_code 196 = .ok (.iconst 0, 1) := by decide +kernel
theorem d_M_goesBy_197 : decode prog_14_method_49_code 197 = .ok (.istore_n 2, 1) := by decide +kernel
theorem d_M_goesBy_201 : decode prog_14_method_49_code 201 = .ok (.iinc 1 1, 3) := by decide +kernel
theorem d_M_goesBy_204 : decode prog_14_method_49_code 204 = .ok (.goto (-68), 3) := by decide +kernel
theorem d_M_goesBy_207 : decode prog_14_method_49_code 207 = .ok (.return_, 1) := by decide +kernel
theorem d_M_days_0 : decode prog_14_method_50_code 0 = .ok (.aload_n 0, 1) := by decide +kernel
theorem d_M_days_1 : decode prog_14_method_50_code 1 = .ok (.iconst 0, 1) := by decide +kernel
theorem d_M_days_2 : decode prog_14_method_50_code 2 = .ok (.putfield 132, 3) := by decide +kernel
theorem d_M_days_5 : decode prog_14_method_50_code 5 = .ok (.iload_n 1, 1) := by decide +kernel
theorem d_M_days_6 : decode prog_14_method_50_code 6 = .ok (.ifCond .lt 21, 3) := by decide +kernel
theorem d_M_days_27 : decode prog_14_method_50_code 27 = .ok (.iconst (-1), 1) := by decide +kernel
theorem d_M_days_28 : decode prog_14_method_50_code 28 = .ok (.ireturn, 1) := by decide +kernel
theorem d_M_days_9 : decode prog_14_method_50_code 9 = .ok (.iload_n 1, 1) := by decide +kernel
theorem d_M_days_10 : decode prog_14_method_50_code 10 = .ok (.bipush 99, 2) := by decide +kernel
theorem d_M_days_12 : decode prog_14_method_50_code 12 = .ok (.if_icmp .gt 15, 3) := by decide +kernel
theorem d_M_days_15 : decode prog_14_method_50_code 15 = .ok (.aload_n 0, 1) := by decide +kernel
theorem d_M_days_16 : decode prog_14_method_50_code 16 = .ok (.getfield 295, 3) := by decide +kernel
theorem d_M_days_19 : decode prog_14_method_50_code 19 = .ok (.iload_n 1, 1) := by decide +kernel
theorem d_M_days_20 : decode prog_14_method_50_code 20 = .ok (.iadd, 1) := by decide +kernel
theorem d_M_days_21 : decode prog_14_method_50_code 21 = .ok (.sipush 999, 3) := by decide +kernel
theorem d_M_days_24 : decode prog_14_method_50_code 24 = .ok (.if_icmp .le 5, 3) := by decide +kernel
theorem d_M_days_29 : decode prog_14_method_50_code 29 = .ok (.iconst 0, 1) := by decide +kernel
theorem d_M_days_30 : decode prog_14_method_50_code 30 = .ok (.istore_n 2, 1) := by decide +kernel
theorem d_M_days_31 : decode prog_14_method_50_code 31 = .ok (.iload_n 2, 1) := by decide +kernel
theorem d_M_days_32 : decode prog_14_method_50_code 32 = .ok (.iload_n 1, 1) := by decide +kernel
theorem d_M_days_33 : decode prog_14_method_50_code 33 = .ok (.if_icmp .ge 13, 3) := by decide +kernel
theorem d_M_days_36 : decode prog_14_method_50_code 36 = .ok (.aload_n 0, 1) := by decide +kernel
theorem d_M_days_37 : decode prog_14_method_50_code 37 = .ok (.invokevirtual 347, 3) := by decide +kernel
theorem d_M_days_40 : decode prog_14_method_50_code 40 = .ok (.iinc 2 1, 3) := by decide +kernel
theorem d_M_days_43 : decode prog_14_method_50_code 43 = .ok (.goto (-12), 3) := by decide +kernel
theorem d_M_days_46 : decode prog_14_method_50_code 46 = .ok (.aload_n 0, 1) := by decide +kernel
theorem d_M_days_47 : decode prog_14_method_50_code 47 = .ok (.getfield 295, 3) := by decide +kernel
theorem d_M_days_50 : decode prog_14_method_50_code 50 = .ok (.ireturn, 1) := by decide +kernel
theorem d_M_read_0 : decode prog_14_method_51_code 0 = .ok (.aload_n 0, 1) := by decide +kernel
theorem d_M_read_1 : decode prog_14_method_51_code 1 = .ok (.iconst 0, 1) := by decide +kernel
theorem d_M_read_2 : decode prog_14_method_51_code 2 = .ok (.putfield 132, 3) := by decide +kernel
theorem d_M_read_5 : decode prog_14_method_51_code 5 = .ok (.iload_n 1, 1) := by decide +kernel
theorem d_M_read_6 : decode prog_14_method_51_code 6 = .ok (.invokestatic 280, 3) := by decide +kernel
theorem d_M_read_9 : decode prog_14_method_51_code 9 = .ok (.ifCond .eq 13, 3) := by decide +kernel
theorem d_M_read_22 : decode prog_14_method_51_code 22 = .ok (.iconst (-1), 1) := by decide +kernel
theorem d_M_read_23 : decode prog_14_method_51_code 23 = .ok (.ireturn, 1) := by decide +kernel
theorem d_M_read_12 : decode prog_14_method_51_code 12 = .ok (.aload_n 0, 1) := by decide +kernel
theorem d_M_read_13 : decode prog_14_method_51_code 13 = .ok (.iload_n 1, 1) := by decide +kernel
theorem d_M_read_14 : decode prog_14_method_51_code 14 = .ok (.iload_n 2, 1) := by decide +kernel
theorem d_M_read_15 : decode prog_14_method_51_code 15 = .ok (.invokevirtual 326, 3) := by decide +kernel
theorem d_M_read_18 : decode prog_14_method_51_code 18 = .ok (.iconst (-1), 1) := by decide +kernel
theorem d_M_read_19 : decode prog_14_method_51_code 19 = .ok (.if_icmp .ne 5, 3) := by decide +kernel
theorem d_M_read_24 : decode prog_14_method_51_code 24 = .ok (.aload_n 0, 1) := by decide +kernel
theorem d_M_read_25 : decode prog_14_method_51_code 25 = .ok (.iload_n 1, 1) := by decide +kernel
theorem d_M_read_26 : decode prog_14_method_51_code 26 = .ok (.iload_n 2, 1) := by decide +kernel
theorem d_M_read_27 : decode prog_14_method_51_code 27 = .ok (.invokevirtual 344, 3) := by decide +kernel
theorem d_M_read_30 : decode prog_14_method_51_code 30 = .ok (.aload_n 0, 1) := by decide +kernel
theorem d_M_read_31 : decode prog_14_method_51_code 31 = .ok (.getfield 99, 3) := by decide +kernel
theorem d_M_read_34 : decode prog_14_method_51_code 34 = .ok (.iload_n 1, 1) := by decide +kernel
theorem d_M_read_35 : decode prog_14_method_51_code 35 = .ok (.iaload, 1) := by decide +kernel
theorem d_M_read_36 : decode prog_14_method_51_code 36 = .ok (.ireturn, 1) := by decide +kernel
theorem d_M_look_0 : decode prog_14_method_52_code 0 = .ok (.aload_n 0, 1) := by decide +kernel
theorem d_M_look_1 : decode prog_14_method_52_code 1 = .ok (.aload_n 0, 1) := by decide +kernel
theorem d_M_look_2 : decode prog_14_method_52_code 2 = .ok (.iload_n 1, 1) := by decide +kernel
theorem d_M_look_3 : decode prog_14_method_52_code 3 = .ok (.invokevirtual 309, 3) := by decide +kernel
theorem d_M_look_6 : decode prog_14_method_52_code 6 = .ok (.ifCond .ne 7, 3) := by decide +kernel
theorem d_M_look_13 : decode prog_14_method_52_code 13 = .ok (.iload_n 2, 1) := by decide +kernel
theorem d_M_look_14 : decode prog_14_method_52_code 14 = .ok (.ifCond .lt 8, 3) := by decide +kernel
theorem d_M_look_22 : decode prog_14_method_52_code 22 = .ok (.iconst 2, 1) := by decide +kernel
theorem d_M_look_23 : decode prog_14_method_52_code 23 = .ok (.goto 4, 3) := by decide +kernel
theorem d_M_look_27 : decode prog_14_method_52_code 27 = .ok (.putfield 132, 3) := by decide +kernel
theorem d_M_look_30 : decode prog_14_method_52_code 30 = .ok (.aload_n 0, 1) := by decide +kernel
theorem d_M_look_31 : decode prog_14_method_52_code 31 = .ok (.getfield 132, 3) := by decide +kernel
theorem d_M_look_34 : decode prog_14_method_52_code 34 = .ok (.ifCond .eq 5, 3) := by decide +kernel
theorem d_M_look_39 : decode prog_14_method_52_code 39 = .ok (.iload_n 2, 1) := by decide +kernel
theorem d_M_look_40 : decode prog_14_method_52_code 40 = .ok (.tableswitch 71 0 4 #[36, 43, 50, 57, 64], 36) := by decide +kernel
theorem d_M_look_111 : decode prog_14_method_52_code 111 = .ok (.aload_n 0, 1) := by decide +kernel
theorem d_M_look_112 : decode prog_14_method_52_code 112 = .ok (.getfield 63, 3) := by decide +kernel
theorem d_M_look_115 : decode prog_14_method_52_code 115 = .ok (.iload_n 1, 1) := by decide +kernel
theorem d_M_look_116 : decode prog_14_method_52_code 116 = .ok (.iaload, 1) := by decide +kernel
theorem d_M_look_117 : decode prog_14_method_52_code 117 = .ok (.ireturn, 1) := by decide +kernel
theorem d_M_look_104 : decode prog_14_method_52_code 104 = .ok (.aload_n 0, 1) := by decide +kernel
theorem d_M_look_105 : decode prog_14_method_52_code 105 = .ok (.getfield 60, 3) := by decide +kernel
theorem d_M_look_108 : decode prog_14_method_52_code 108 = .ok (.iload_n 1, 1) := by decide +kernel
theorem d_M_look_109 : decode prog_14_method_52_code 109 = .ok (.iaload, 1) := by decide +kernel
theorem d_M_look_110 : decode prog_14_method_52_code 110 = .ok (.ireturn, 1) := by decide +kernel
theorem d_M_look_97 : decode prog_14_method_52_code 97 = .ok (.aload_n 0, 1) := by decide +kernel
theorem d_M_look_98 : decode prog_14_method_52_code 98 = .ok (.getfield 57, 3) := by decide +kernel
theorem d_M_look_101 : decode prog_14_method_52_code 101 = .ok (.iload_n 1, 1) := by decide +kernel
theorem d_M_look_102 : decode prog_14_method_52_code 102 = .ok (.iaload, 1) := by decide +kernel
theorem d_M_look_103 : decode prog_14_method_52_code 103 = .ok (.ireturn, 1) := by decide +kernel
theorem d_M_look_90 : decode prog_14_method_52_code 90 = .ok (.aload_n 0, 1) := by decide +kernel
theorem d_M_look_91 : decode prog_14_method_52_code 91 = .ok (.getfield 54, 3) := by decide +kernel
theorem d_M_look_94 : decode prog_14_method_52_code 94 = .ok (.iload_n 1, 1) := by decide +kernel
theorem d_M_look_95 : decode prog_14_method_52_code 95 = .ok (.iaload, 1) := by decide +kernel
theorem d_M_look_96 : decode prog_14_method_52_code 96 = .ok (.ireturn, 1) := by decide +kernel
theorem d_M_look_83 : decode prog_14_method_52_code 83 = .ok (.aload_n 0, 1) := by decide +kernel
theorem d_M_look_84 : decode prog_14_method_52_code 84 = .ok (.getfield 51, 3) := by decide +kernel
theorem d_M_look_87 : decode prog_14_method_52_code 87 = .ok (.iload_n 1, 1) := by decide +kernel
theorem d_M_look_88 : decode prog_14_method_52_code 88 = .ok (.iaload, 1) := by decide +kernel
theorem d_M_look_89 : decode prog_14_method_52_code 89 = .ok (.ireturn, 1) := by decide +kernel
theorem d_M_look_76 : decode prog_14_method_52_code 76 = .ok (.aload_n 0, 1) := by decide +kernel
theorem d_M_look_77 : decode prog_14_method_52_code 77 = .ok (.getfield 48, 3) := by decide +kernel
theorem d_M_look_80 : decode prog_14_method_52_code 80 = .ok (.iload_n 1, 1) := by decide +kernel
theorem d_M_look_81 : decode prog_14_method_52_code 81 = .ok (.iaload, 1) := by decide +kernel
theorem d_M_look_82 : decode prog_14_method_52_code 82 = .ok (.ireturn, 1) := by decide +kernel
theorem d_M_look_37 : decode prog_14_method_52_code 37 = .ok (.iconst 0, 1) := by decide +kernel
theorem d_M_look_38 : decode prog_14_method_52_code 38 = .ok (.ireturn, 1) := by decide +kernel
theorem d_M_look_17 : decode prog_14_method_52_code 17 = .ok (.iload_n 2, 1) := by decide +kernel
theorem d_M_look_18 : decode prog_14_method_52_code 18 = .ok (.iconst 5, 1) := by decide +kernel
theorem d_M_look_19 : decode prog_14_method_52_code 19 = .ok (.if_icmp .le 7, 3) := by decide +kernel
theorem d_M_look_26 : decode prog_14_method_52_code 26 = .ok (.iconst 0, 1) := by decide +kernel
theorem d_M_look_9 : decode prog_14_method_52_code 9 = .ok (.iconst 1, 1) := by decide +kernel
theorem d_M_look_10 : decode prog_14_method_52_code 10 = .ok (.goto 17, 3) := by decide +kernel
theorem d_M_copy_0 : decode prog_14_method_53_code 0 = .ok (.aload_n 0, 1) := by decide +kernel
theorem d_M_copy_1 : decode prog_14_method_53_code 1 = .ok (.iconst 0, 1) := by decide +kernel
theorem d_M_copy_2 : decode prog_14_method_53_code 2 = .ok (.putfield 132, 3) := by decide +kernel
theorem d_M_copy_5 : decode prog_14_method_53_code 5 = .ok (.iload_n 1, 1) := by decide +kernel
theorem d_M_copy_6 : decode prog_14_method_53_code 6 = .ok (.ifCond .lt 20, 3) := by decide +kernel
theorem d_M_copy_26 : decode prog_14_method_53_code 26 = .ok (.iconst (-1), 1) := by decide +kernel
theorem d_M_copy_27 : decode prog_14_method_53_code 27 = .ok (.ireturn, 1) := by decide +kernel
theorem d_M_copy_9 : decode prog_14_method_53_code 9 = .ok (.iload_n 1, 1) := by decide +kernel
theorem d_M_copy_10 : decode prog_14_method_53_code 10 = .ok (.aload_n 0, 1) := by decide +kernel
theorem d_M_copy_11 : decode prog_14_method_53_code 11 = .ok (.getfield 292, 3) := by decide +kernel
theorem d_M_copy_14 : decode prog_14_method_53_code 14 = .ok (.if_icmp .ge 12, 3) := by decide +kernel
theorem d_M_copy_17 : decode prog_14_method_53_code 17 = .ok (.iload_n 2, 1) := by decide +kernel
theorem d_M_copy_18 : decode prog_14_method_53_code 18 = .ok (.ifCond .lt 8, 3) := by decide +kernel
theorem d_M_copy_21 : decode prog_14_method_53_code 21 = .ok (.iload_n 2, 1) := by decide +kernel
theorem d_M_copy_22 : decode prog_14_method_53_code 22 = .ok (.iconst 3, 1) := by decide +kernel
theorem d_M_copy_23 : decode prog_14_method_53_code 23 = .ok (.if_icmp .le 5, 3) := by decide +kernel
theorem d_M_copy_28 : decode prog_14_method_53_code 28 = .ok (.iload_n 2, 1) := by decide +kernel
theorem d_M_copy_29 : decode prog_14_method_53_code 29 = .ok (.ifCond .ne 12, 3) := by decide +kernel
theorem d_M_copy_41 : decode prog_14_method_53_code 41 = .ok (.iload_n 2, 1) := by decide +kernel
theorem d_M_copy_42 : decode prog_14_method_53_code 42 = .ok (.iconst 1, 1) := by decide +kernel
theorem d_M_copy_43 : decode prog_14_method_53_code 43 = .ok (.if_icmp .ne 12, 3) := by decide +kernel
theorem d_M_copy_55 : decode prog_14_method_53_code 55 = .ok (.iload_n 2, 1) := by decide +kernel
theorem d_M_copy_56 : decode prog_14_method_53_code 56 = .ok (.iconst 2, 1) := by decide +kernel
theorem d_M_copy_57 : decode prog_14_method_53_code 57 = .ok (.if_icmp .ne 12, 3) := by decide +kernel
theorem d_M_copy_69 : decode prog_14_method_53_code 69 = .ok (.aload_n 0, 1) := by decide +kernel
theorem d_M_copy_70 : decode prog_14_method_53_code 70 = .ok (.getfield 87, 3) := by decide +kernel
theorem d_M_copy_73 : decode prog_14_method_53_code 73 = .ok (.iload_n 1, 1) := by decide +kernel
theorem d_M_copy_74 : decode prog_14_method_53_code 74 = .ok (.iaload, 1) := by decide +kernel
theorem d_M_copy_75 : decode prog_14_method_53_code 75 = .ok (.ireturn, 1) := by decide +kernel
theorem d_M_copy_60 : decode prog_14_method_53_code 60 = .ok (.aload_n 0, 1) := by decide +kernel
theorem d_M_copy_61 : decode prog_14_method_53_code 61 = .ok (.getfield 84, 3) := by decide +kernel
theorem d_M_copy_64 : decode prog_14_method_53_code 64 = .ok (.iload_n 1, 1) := by decide +kernel
theorem d_M_copy_65 : decode prog_14_method_53_code 65 = .ok (.iaload, 1) := by decide +kernel
theorem d_M_copy_66 : decode prog_14_method_53_code 66 = .ok (.goto 9, 3) := by decide +kernel
theorem d_M_copy_46 : decode prog_14_method_53_code 46 = .ok (.aload_n 0, 1) := by decide +kernel
theorem d_M_copy_47 : decode prog_14_method_53_code 47 = .ok (.getfield 81, 3) := by decide +kernel
theorem d_M_copy_50 : decode prog_14_method_53_code 50 = .ok (.iload_n 1, 1) := by decide +kernel
theorem d_M_copy_51 : decode prog_14_method_53_code 51 = .ok (.iaload, 1) := by decide +kernel
theorem d_M_copy_52 : decode prog_14_method_53_code 52 = .ok (.goto 23, 3) := by decide +kernel
theorem d_M_copy_32 : decode prog_14_method_53_code 32 = .ok (.aload_n 0, 1) := by decide +kernel
theorem d_M_copy_33 : decode prog_14_method_53_code 33 = .ok (.getfield 75, 3) := by decide +kernel
theorem d_M_copy_36 : decode prog_14_method_53_code 36 = .ok (.iload_n 1, 1) := by decide +kernel
theorem d_M_copy_37 : decode prog_14_method_53_code 37 = .ok (.iaload, 1) := by decide +kernel
theorem d_M_copy_38 : decode prog_14_method_53_code 38 = .ok (.goto 37, 3) := by decide +kernel
theorem d_M_desk_0 : decode prog_14_method_54_code 0 = .ok (.aload_n 0, 1) := by decide +kernel
theorem d_M_desk_1 : decode prog_14_method_54_code 1 = .ok (.iconst 0, 1) := by decide +kernel
theorem d_M_desk_2 : decode prog_14_method_54_code 2 = .ok (.putfield 132, 3) := by decide +kernel
theorem d_M_desk_5 : decode prog_14_method_54_code 5 = .ok (.iload_n 1, 1) := by decide +kernel
theorem d_M_desk_6 : decode prog_14_method_54_code 6 = .ok (.invokestatic 280, 3) := by decide +kernel
theorem d_M_desk_9 : decode prog_14_method_54_code 9 = .ok (.ifCond .eq 17, 3) := by decide +kernel
theorem d_M_desk_26 : decode prog_14_method_54_code 26 = .ok (.iconst (-1), 1) := by decide +kernel
theorem d_M_desk_27 : decode prog_14_method_54_code 27 = .ok (.goto 14, 3) := by decide +kernel
theorem d_M_desk_41 : decode prog_14_method_54_code 41 = .ok (.ireturn, 1) := by decide +kernel
theorem d_M_desk_12 : decode prog_14_method_54_code 12 = .ok (.iload_n 2, 1) := by decide +kernel
theorem d_M_desk_13 : decode prog_14_method_54_code 13 = .ok (.ifCond .lt 13, 3) := by decide +kernel
theorem d_M_desk_16 : decode prog_14_method_54_code 16 = .ok (.iload_n 2, 1) := by decide +kernel
theorem d_M_desk_17 : decode prog_14_method_54_code 17 = .ok (.aload_n 0, 1) := by decide +kernel
theorem d_M_desk_18 : decode prog_14_method_54_code 18 = .ok (.getfield 99, 3) := by decide +kernel
theorem d_M_desk_21 : decode prog_14_method_54_code 21 = .ok (.iload_n 1, 1) := by decide +kernel
theorem d_M_desk_22 : decode prog_14_method_54_code 22 = .ok (.iaload, 1) := by decide +kernel
theorem d_M_desk_23 : decode prog_14_method_54_code 23 = .ok (.if_icmp .lt 7, 3) := by decide +kernel
theorem d_M_desk_30 : decode prog_14_method_54_code 30 = .ok (.aload_n 0, 1) := by decide +kernel
theorem d_M_desk_31 : decode prog_14_method_54_code 31 = .ok (.getfield 96, 3) := by decide +kernel
theorem d_M_desk_34 : decode prog_14_method_54_code 34 = .ok (.bipush 30, 2) := by decide +kernel
theorem d_M_desk_36 : decode prog_14_method_54_code 36 = .ok (.iload_n 1, 1) := by decide +kernel
theorem d_M_desk_37 : decode prog_14_method_54_code 37 = .ok (.imul, 1) := by decide +kernel
theorem d_M_desk_38 : decode prog_14_method_54_code 38 = .ok (.iload_n 2, 1) := by decide +kernel
theorem d_M_desk_39 : decode prog_14_method_54_code 39 = .ok (.iadd, 1) := by decide +kernel
theorem d_M_desk_40 : decode prog_14_method_54_code 40 = .ok (.iaload, 1) := by decide +kernel
theorem d_M_before_0 : decode prog_14_method_56_code 0 = .ok (.aload_n 0, 1) := by decide +kernel
theorem d_M_before_1 : decode prog_14_method_56_code 1 = .ok (.iconst 0, 1) := by decide +kernel
theorem d_M_before_2 : decode prog_14_method_56_code 2 = .ok (.putfield 132, 3) := by decide +kernel
theorem d_M_before_5 : decode prog_14_method_56_code 5 = .ok (.aload_n 0, 1) := by decide +kernel
theorem d_M_before_6 : decode prog_14_method_56_code 6 = .ok (.iload_n 1, 1) := by decide +kernel
theorem d_M_before_7 : decode prog_14_method_56_code 7 = .ok (.invokevirtual 309, 3) := by decide +kernel
theorem d_M_before_10 : decode prog_14_method_56_code 10 = .ok (.ifCond .eq 16, 3) := by decide +kernel
theorem d_M_before_26 : decode prog_14_method_56_code 26 = .ok (.iconst (-1), 1) := by decide +kernel
theorem d_M_before_27 : decode prog_14_method_56_code 27 = .ok (.ireturn, 1) := by decide +kernel
theorem d_M_before_13 : decode prog_14_method_56_code 13 = .ok (.aload_n 0, 1) := by decide +kernel
theorem d_M_before_14 : decode prog_14_method_56_code 14 = .ok (.iload_n 2, 1) := by decide +kernel
theorem d_M_before_15 : decode prog_14_method_56_code 15 = .ok (.invokevirtual 309, 3) := by decide +kernel
theorem d_M_before_18 : decode prog_14_method_56_code 18 = .ok (.ifCond .eq 8, 3) := by decide +kernel
theorem d_M_before_21 : decode prog_14_method_56_code 21 = .ok (.iload_n 1, 1) := by decide +kernel
theorem d_M_before_22 : decode prog_14_method_56_code 22 = .ok (.iload_n 2, 1) := by decide +kernel
theorem d_M_before_23 : decode prog_14_method_56_code 23 = .ok (.if_icmp .ne 5, 3) := by decide +kernel
theorem d_M_before_28 : decode prog_14_method_56_code 28 = .ok (.aload_n 0, 1) := by decide +kernel
theorem d_M_before_29 : decode prog_14_method_56_code 29 = .ok (.iload_n 1, 1) := by decide +kernel
theorem d_M_before_30 : decode prog_14_method_56_code 30 = .ok (.iload_n 2, 1) := by decide +kernel
theorem d_M_before_31 : decode prog_14_method_56_code 31 = .ok (.invokevirtual 350, 3) := by decide +kernel
theorem d_M_before_34 : decode prog_14_method_56_code 34 = .ok (.ifCond .eq 7, 3) := by decide +kernel
theorem d_M_before_41 : decode prog_14_method_56_code 41 = .ok (.aload_n 0, 1) := by decide +kernel
theorem d_M_before_42 : decode prog_14_method_56_code 42 = .ok (.iload_n 2, 1) := by decide +kernel
theorem d_M_before_43 : decode prog_14_method_56_code 43 = .ok (.iload_n 1, 1) := by decide +kernel
theorem d_M_before_44 : decode prog_14_method_56_code 44 = .ok (.invokevirtual 350, 3) := by decide +kernel
theorem d_M_before_47 : decode prog_14_method_56_code 47 = .ok (.ifCond .eq 7, 3) := by decide +kernel
theorem d_M_before_54 : decode prog_14_method_56_code 54 = .ok (.iconst 0, 1) := by decide +kernel
theorem d_M_before_55 : decode prog_14_method_56_code 55 = .ok (.ireturn, 1) := by decide +kernel
theorem d_M_before_50 : decode prog_14_method_56_code 50 = .ok (.iconst 2, 1) := by decide +kernel
theorem d_M_before_51 : decode prog_14_method_56_code 51 = .ok (.goto 4, 3) := by decide +kernel
theorem d_M_before_37 : decode prog_14_method_56_code 37 = .ok (.iconst 1, 1) := by decide +kernel
theorem d_M_before_38 : decode prog_14_method_56_code 38 = .ok (.goto 17, 3) := by decide +kernel
theorem d_M_path_0 : decode prog_14_method_57_code 0 = .ok (.aload_n 0, 1) := by decide +kernel
theorem d_M_path_1 : decode prog_14_method_57_code 1 = .ok (.iconst 0, 1) := by decide +kernel
theorem d_M_path_2 : decode prog_14_method_57_code 2 = .ok (.putfield 132, 3) := by decide +kernel
theorem d_M_path_5 : decode prog_14_method_57_code 5 = .ok (.aload_n 0, 1) := by decide +kernel
theorem d_M_path_6 : decode prog_14_method_57_code 6 = .ok (.iload_n 1, 1) := by decide +kernel
theorem d_M_path_7 : decode prog_14_method_57_code 7 = .ok (.invokevirtual 309, 3) := by decide +kernel
theorem d_M_path_10 : decode prog_14_method_57_code 10 = .ok (.ifCond .eq 29, 3) := by decide +kernel
theorem d_M_path_39 : decode prog_14_method_57_code 39 = .ok (.iconst (-1), 1) := by decide +kernel
theorem d_M_path_40 : decode prog_14_method_57_code 40 = .ok (.ireturn, 1) := by decide +kernel
theorem d_M_path_13 : decode prog_14_method_57_code 13 = .ok (.aload_n 0, 1) := by decide +kernel
theorem d_M_path_14 : decode prog_14_method_57_code 14 = .ok (.iload_n 2, 1) := by decide +kernel
theorem d_M_path_15 : decode prog_14_method_57_code 15 = .ok (.invokevirtual 309, 3) := by decide +kernel
theorem d_M_path_18 : decode prog_14_method_57_code 18 = .ok (.ifCond .eq 21, 3) := by decide +kernel
theorem d_M_path_21 : decode prog_14_method_57_code 21 = .ok (.iload_n 1, 1) := by decide +kernel
theorem d_M_path_22 : decode prog_14_method_57_code 22 = .ok (.iload_n 2, 1) := by decide +kernel
theorem d_M_path_23 : decode prog_14_method_57_code 23 = .ok (.if_icmp .eq 16, 3) := by decide +kernel
theorem d_M_path_26 : decode prog_14_method_57_code 26 = .ok (.aload_n 0, 1) := by decide +kernel
theorem d_M_path_27 : decode prog_14_method_57_code 27 = .ok (.iload_n 1, 1) := by decide +kernel
theorem d_M_path_28 : decode prog_14_method_57_code 28 = .ok (.iload_n 2, 1) := by decide +kernel
theorem d_M_path_29 : decode prog_14_method_57_code 29 = .ok (.invokevirtual 350, 3) := by decide +kernel
theorem d_M_path_32 : decode prog_14_method_57_code 32 = .ok (.ifCond .eq 7, 3) := by decide +kernel
theorem d_M_path_35 : decode prog_14_method_57_code 35 = .ok (.iload_n 3, 1) := by decide +kernel
theorem d_M_path_36 : decode prog_14_method_57_code 36 = .ok (.ifCond .ge 5, 3) := by decide +kernel
theorem d_M_path_41 : decode prog_14_method_57_code 41 = .ok (.aload_n 0, 1) := by decide +kernel
theorem d_M_path_42 : decode prog_14_method_57_code 42 = .ok (.getfield 102, 3) := by decide +kernel
theorem d_M_path_45 : decode prog_14_method_57_code 45 = .ok (.iload_n 2, 1) := by decide +kernel
theorem d_M_path_46 : decode prog_14_method_57_code 46 = .ok (.iconst 0, 1) := by decide +kernel
theorem d_M_path_47 : decode prog_14_method_57_code 47 = .ok (.iastore, 1) := by decide +kernel
theorem d_M_path_48 : decode prog_14_method_57_code 48 = .ok (.iload_n 2, 1) := by decide +kernel
theorem d_M_path_49 : decode prog_14_method_57_code 49 = .ok (.iconst 1, 1) := by decide +kernel
theorem d_M_path_50 : decode prog_14_method_57_code 50 = .ok (.isub, 1) := by decide +kernel
theorem d_M_path_51 : decode prog_14_method_57_code 51 = .ok (.istore 4, 2) := by decide +kernel
theorem d_M_path_53 : decode prog_14_method_57_code 53 = .ok (.iload 4, 2) := by decide +kernel
theorem d_M_path_55 : decode prog_14_method_57_code 55 = .ok (.iload_n 1, 1) := by decide +kernel
theorem d_M_path_56 : decode prog_14_method_57_code 56 = .ok (.if_icmp .lt 78, 3) := by decide +kernel
theorem d_M_path_59 : decode prog_14_method_57_code 59 = .ok (.aload_n 0, 1) := by decide +kernel
theorem d_M_path_60 : decode prog_14_method_57_code 60 = .ok (.getfield 102, 3) := by decide +kernel
theorem d_M_path_63 : decode prog_14_method_57_code 63 = .ok (.iload 4, 2) := by decide +kernel
theorem d_M_path_65 : decode prog_14_method_57_code 65 = .ok (.bipush 99, 2) := by decide +kernel
theorem d_M_path_67 : decode prog_14_method_57_code 67 = .ok (.iastore, 1) := by decide +kernel
theorem d_M_path_68 : decode prog_14_method_57_code 68 = .ok (.iload 4, 2) := by decide +kernel
theorem d_M_path_70 : decode prog_14_method_57_code 70 = .ok (.iconst 1, 1) := by decide +kernel
theorem d_M_path_71 : decode prog_14_method_57_code 71 = .ok (.iadd, 1) := by decide +kernel
theorem d_M_path_72 : decode prog_14_method_57_code 72 = .ok (.istore 5, 2) := by decide +kernel
theorem d_M_path_74 : decode prog_14_method_57_code 74 = .ok (.iload 5, 2) := by decide +kernel
theorem d_M_path_76 : decode prog_14_method_57_code 76 = .ok (.iload_n 2, 1) := by decide +kernel
theorem d_M_path_77 : decode prog_14_method_57_code 77 = .ok (.if_icmp .gt 51, 3) := by decide +kernel
theorem d_M_path_80 : decode prog_14_method_57_code 80 = .ok (.aload_n 0, 1) := by decide +kernel
theorem d_M_path_81 : decode prog_14_method_57_code 81 = .ok (.getfield 66, 3) := by decide +kernel
theorem d_M_path_84 : decode prog_14_method_57_code 84 = .ok (.iload 5, 2) := by decide +kernel
theorem d_M_path_86 : decode prog_14_method_57_code 86 = .ok (.iaload, 1) := by decide +kernel
theorem d_M_path_87 : decode prog_14_method_57_code 87 = .ok (.iload 4, 2) := by decide +kernel
theorem d_M_path_89 : decode prog_14_method_57_code 89 = .ok (.ishr, 1) := by decide +kernel
theorem d_M_path_90 : decode prog_14_method_57_code 90 = .ok (.iconst 1, 1) := by decide +kernel
theorem d_M_path_91 : decode prog_14_method_57_code 91 = .ok (.iand, 1) := by decide +kernel
theorem d_M_path_92 : decode prog_14_method_57_code 92 = .ok (.iconst 1, 1) := by decide +kernel
theorem d_M_path_93 : decode prog_14_method_57_code 93 = .ok (.if_icmp .ne 29, 3) := by decide +kernel
theorem d_M_path_122 : decode prog_14_method_57_code 122 = .ok (.iinc 5 1, 3) := by decide +kernel
theorem d_M_path_125 : decode prog_14_method_57_code 125 = .ok (.goto (-51), 3) := by decide +kernel
theorem d_M_path_96 : decode prog_14_method_57_code 96 = .ok (.aload_n 0, 1) := by decide +kernel
theorem d_M_path_97 : decode prog_14_method_57_code 97 = .ok (.getfield 102, 3) := by decide +kernel
theorem d_M_path_100 : decode prog_14_method_57_code 100 = .ok (.iload 4, 2) := by decide +kernel
theorem d_M_path_102 : decode prog_14_method_57_code 102 = .ok (.aload_n 0, 1) := by decide +kernel
theorem d_M_path_103 : decode prog_14_method_57_code 103 = .ok (.getfield 102, 3) := by decide +kernel
theorem d_M_path_106 : decode prog_14_method_57_code 106 = .ok (.iload 4, 2) := by decide +kernel
theorem d_M_path_108 : decode prog_14_method_57_code 108 = .ok (.iaload, 1) := by decide +kernel
theorem d_M_path_109 : decode prog_14_method_57_code 109 = .ok (.aload_n 0, 1) := by decide +kernel
theorem d_M_path_110 : decode prog_14_method_57_code 110 = .ok (.getfield 102, 3) := by decide +kernel
theorem d_M_path_113 : decode prog_14_method_57_code 113 = .ok (.iload 5, 2) := by decide +kernel
theorem d_M_path_115 : decode prog_14_method_57_code 115 = .ok (.iaload, 1) := by decide +kernel
theorem d_M_path_116 : decode prog_14_method_57_code 116 = .ok (.iconst 1, 1) := by decide +kernel
theorem d_M_path_117 : decode prog_14_method_57_code 117 = .ok (.iadd, 1) := by decide +kernel
theorem d_M_path_118 : decode prog_14_method_57_code 118 = .ok (.invokestatic 353, 3) := by decide +kernel
theorem d_M_path_121 : decode prog_14_method_57_code 121 = .ok (.iastore, 1) := by decide +kernel
theorem d_M_path_128 : decode prog_14_method_57_code 128 = .ok (.iinc 4 (-1), 3) := by decide +kernel
theorem d_M_path_131 : decode prog_14_method_57_code 131 = .ok (.goto (-78), 3) := by decide +kernel
theorem d_M_path_134 : decode prog_14_method_57_code 134 = .ok (.iload_n 1, 1) := by decide +kernel
theorem d_M_path_135 : decode prog_14_method_57_code 135 = .ok (.istore 4, 2) := by decide +kernel
theorem d_M_path_137 : decode prog_14_method_57_code 137 = .ok (.iconst 0, 1) := by decide +kernel
theorem d_M_path_138 : decode prog_14_method_57_code 138 = .ok (.istore 5, 2) := by decide +kernel
theorem d_M_path_140 : decode prog_14_method_57_code 140 = .ok (.iload 5, 2) := by decide +kernel
theorem d_M_path_142 : decode prog_14_method_57_code 142 = .ok (.iload_n 3, 1) := by decide +kernel
theorem d_M_path_143 : decode prog_14_method_57_code 143 = .ok (.if_icmp .ge 67, 3) := by decide +kernel
theorem d_M_path_146 : decode prog_14_method_57_code 146 = .ok (.iload 4, 2) := by decide +kernel
theorem d_M_path_148 : decode prog_14_method_57_code 148 = .ok (.iload_n 2, 1) := by decide +kernel
theorem d_M_path_149 : decode prog_14_method_57_code 149 = .ok (.if_icmp .ne 5, 3) := by decide +kernel
theorem d_M_path_154 : decode prog_14_method_57_code 154 = .ok (.iload 4, 2) := by decide +kernel
theorem d_M_path_156 : decode prog_14_method_57_code 156 = .ok (.iconst 1, 1) := by decide +kernel
theorem d_M_path_157 : decode prog_14_method_57_code 157 = .ok (.iadd, 1) := by decide +kernel
theorem d_M_path_158 : decode prog_14_method_57_code 158 = .ok (.istore 6, 2) := by decide +kernel
theorem d_M_path_160 : decode prog_14_method_57_code 160 = .ok (.aload_n 0, 1) := by decide +kernel
theorem d_M_path_161 : decode prog_14_method_57_code 161 = .ok (.getfield 66, 3) := by decide +kernel
theorem d_M_path_164 : decode prog_14_method_57_code 164 = .ok (.iload 6, 2) := by decide +kernel
theorem d_M_path_166 : decode prog_14_method_57_code 166 = .ok (.iaload, 1) := by decide +kernel
theorem d_M_path_167 : decode prog_14_method_57_code 167 = .ok (.iload 4, 2) := by decide +kernel
theorem d_M_path_169 : decode prog_14_method_57_code 169 = .ok (.ishr, 1) := by decide +kernel
theorem d_M_path_170 : decode prog_14_method_57_code 170 = .ok (.iconst 1, 1) := by decide +kernel
theorem d_M_path_171 : decode prog_14_method_57_code 171 = .ok (.iand, 1) := by decide +kernel
theorem d_M_path_172 : decode prog_14_method_57_code 172 = .ok (.ifCond .eq 22, 3) := by decide +kernel
theorem d_M_path_194 : decode prog_14_method_57_code 194 = .ok (.iinc 6 1, 3) := by decide +kernel
theorem d_M_path_197 : decode prog_14_method_57_code 197 = .ok (.goto (-37), 3) := by decide +kernel
theorem d_M_path_175 : decode prog_14_method_57_code 175 = .ok (.aload_n 0, 1) := by decide +kernel
theorem d_M_path_176 : decode prog_14_method_57_code 176 = .ok (.getfield 102, 3) := by decide +kernel
theorem d_M_path_179 : decode prog_14_method_57_code 179 = .ok (.iload 6, 2) := by decide +kernel
theorem d_M_path_181 : decode prog_14_method_57_code 181 = .ok (.iaload, 1) := by decide +kernel
theorem d_M_path_182 : decode prog_14_method_57_code 182 = .ok (.aload_n 0, 1) := by decide +kernel
theorem d_M_path_183 : decode prog_14_method_57_code 183 = .ok (.getfield 102, 3) := by decide +kernel
theorem d_M_path_186 : decode prog_14_method_57_code 186 = .ok (.iload 4, 2) := by decide +kernel
theorem d_M_path_188 : decode prog_14_method_57_code 188 = .ok (.iaload, 1) := by decide +kernel
theorem d_M_path_189 : decode prog_14_method_57_code 189 = .ok (.iconst 1, 1) := by decide +kernel
theorem d_M_path_190 : decode prog_14_method_57_code 190 = .ok (.isub, 1) := by decide +kernel
theorem d_M_path_191 : decode prog_14_method_57_code 191 = .ok (.if_icmp .eq 9, 3) := by decide +kernel
theorem d_M_path_200 : decode prog_14_method_57_code 200 = .ok (.iload 6, 2) := by decide +kernel
theorem d_M_path_202 : decode prog_14_method_57_code 202 = .ok (.istore 4, 2) := by decide +kernel
theorem d_M_path_204 : decode prog_14_method_57_code 204 = .ok (.iinc 5 1, 3) := by decide +kernel
theorem d_M_path_207 : decode prog_14_method_57_code 207 = .ok (.goto (-67), 3) := by decide +kernel
theorem d_M_path_152 : decode prog_14_method_57_code 152 = .ok (.iconst (-1), 1) := by decide +kernel
theorem d_M_path_153 : decode prog_14_method_57_code 153 = .ok (.ireturn, 1) := by decide +kernel
theorem d_M_path_210 : decode prog_14_method_57_code 210 = .ok (.iload 4, 2) := by decide +kernel
theorem d_M_path_212 : decode prog_14_method_57_code 212 = .ok (.ireturn, 1) := by decide +kernel
theorem d_M_sum_0 : decode prog_14_method_59_code 0 = .ok (.aload_n 0, 1) := by decide +kernel
theorem d_M_sum_1 : decode prog_14_method_59_code 1 = .ok (.iconst 0, 1) := by decide +kernel
theorem d_M_sum_2 : decode prog_14_method_59_code 2 = .ok (.putfield 132, 3) := by decide +kernel
theorem d_M_sum_5 : decode prog_14_method_59_code 5 = .ok (.aload_n 0, 1) := by decide +kernel
theorem d_M_sum_6 : decode prog_14_method_59_code 6 = .ok (.iload_n 1, 1) := by decide +kernel
theorem d_M_sum_7 : decode prog_14_method_59_code 7 = .ok (.invokevirtual 309, 3) := by decide +kernel
theorem d_M_sum_10 : decode prog_14_method_59_code 10 = .ok (.ifCond .eq 11, 3) := by decide +kernel
theorem d_M_sum_21 : decode prog_14_method_59_code 21 = .ok (.iconst (-1), 1) := by decide +kernel
theorem d_M_sum_22 : decode prog_14_method_59_code 22 = .ok (.ireturn, 1) := by decide +kernel
theorem d_M_sum_13 : decode prog_14_method_59_code 13 = .ok (.aload_n 0, 1) := by decide +kernel
theorem d_M_sum_14 : decode prog_14_method_59_code 14 = .ok (.iload_n 1, 1) := by decide +kernel
theorem d_M_sum_15 : decode prog_14_method_59_code 15 = .ok (.invokevirtual 335, 3) := by decide +kernel
theorem d_M_sum_18 : decode prog_14_method_59_code 18 = .ok (.goto 4, 3) := by decide +kernel
theorem d_M_numberOf_0 : decode prog_14_method_60_code 0 = .ok (.aload_n 0, 1) := by decide +kernel
theorem d_M_numberOf_1 : decode prog_14_method_60_code 1 = .ok (.getfield 48, 3) := by decide +kernel
theorem d_M_numberOf_4 : decode prog_14_method_60_code 4 = .ok (.iload_n 1, 1) := by decide +kernel
theorem d_M_numberOf_5 : decode prog_14_method_60_code 5 = .ok (.iaload, 1) := by decide +kernel
theorem d_M_numberOf_6 : decode prog_14_method_60_code 6 = .ok (.iload_n 2, 1) := by decide +kernel
theorem d_M_numberOf_7 : decode prog_14_method_60_code 7 = .ok (.if_icmp .ne 7, 3) := by decide +kernel
theorem d_M_numberOf_14 : decode prog_14_method_60_code 14 = .ok (.iconst 0, 1) := by decide +kernel
theorem d_M_numberOf_15 : decode prog_14_method_60_code 15 = .ok (.istore_n 3, 1) := by decide +kernel
theorem d_M_numberOf_16 : decode prog_14_method_60_code 16 = .ok (.iconst 0, 1) := by decide +kernel
theorem d_M_numberOf_17 : decode prog_14_method_60_code 17 = .ok (.istore 4, 2) := by decide +kernel
theorem d_M_numberOf_19 : decode prog_14_method_60_code 19 = .ok (.iload 4, 2) := by decide +kernel
theorem d_M_numberOf_21 : decode prog_14_method_60_code 21 = .ok (.iload_n 1, 1) := by decide +kernel
theorem d_M_numberOf_22 : decode prog_14_method_60_code 22 = .ok (.if_icmp .ge 38, 3) := by decide +kernel
theorem d_M_numberOf_25 : decode prog_14_method_60_code 25 = .ok (.iload_n 3, 1) := by decide +kernel
theorem d_M_numberOf_26 : decode prog_14_method_60_code 26 = .ok (.aload_n 0, 1) := by decide +kernel
theorem d_M_numberOf_27 : decode prog_14_method_60_code 27 = .ok (.iload 4, 2) := by decide +kernel
theorem d_M_numberOf_29 : decode prog_14_method_60_code 29 = .ok (.iload_n 1, 1) := by decide +kernel
theorem d_M_numberOf_30 : decode prog_14_method_60_code 30 = .ok (.invokevirtual 350, 3) := by decide +kernel
theorem d_M_numberOf_33 : decode prog_14_method_60_code 33 = .ok (.ifCond .eq 18, 3) := by decide +kernel
theorem d_M_numberOf_51 : decode prog_14_method_60_code 51 = .ok (.iconst 0, 1) := by decide +kernel
theorem d_M_numberOf_52 : decode prog_14_method_60_code 52 = .ok (.iadd, 1) := by decide +kernel
theorem d_M_numberOf_53 : decode prog_14_method_60_code 53 = .ok (.istore_n 3, 1) := by decide +kernel
theorem d_M_numberOf_54 : decode prog_14_method_60_code 54 = .ok (.iinc 4 1, 3) := by decide +kernel
theorem d_M_numberOf_57 : decode prog_14_method_60_code 57 = .ok (.goto (-38), 3) := by decide +kernel
theorem d_M_numberOf_36 : decode prog_14_method_60_code 36 = .ok (.aload_n 0, 1) := by decide +kernel
theorem d_M_numberOf_37 : decode prog_14_method_60_code 37 = .ok (.getfield 48, 3) := by decide +kernel
theorem d_M_numberOf_40 : decode prog_14_method_60_code 40 = .ok (.iload 4, 2) := by decide +kernel
theorem d_M_numberOf_42 : decode prog_14_method_60_code 42 = .ok (.iaload, 1) := by decide +kernel
theorem d_M_numberOf_43 : decode prog_14_method_60_code 43 = .ok (.iload_n 2, 1) := by decide +kernel
theorem d_M_numberOf_44 : decode prog_14_method_60_code 44 = .ok (.if_icmp .ne 7, 3) := by decide +kernel
theorem d_M_numberOf_47 : decode prog_14_method_60_code 47 = .ok (.iconst 1, 1) := by decide +kernel
theorem d_M_numberOf_48 : decode prog_14_method_60_code 48 = .ok (.goto 4, 3) := by decide +kernel
theorem d_M_numberOf_60 : decode prog_14_method_60_code 60 = .ok (.iload_n 3, 1) := by decide +kernel
theorem d_M_numberOf_61 : decode prog_14_method_60_code 61 = .ok (.ireturn, 1) := by decide +kernel
theorem d_M_numberOf_10 : decode prog_14_method_60_code 10 = .ok (.iconst 1, 1) := by decide +kernel
theorem d_M_numberOf_11 : decode prog_14_method_60_code 11 = .ok (.goto 4, 3) := by decide +kernel
theorem d_M_number_0 : decode prog_14_method_61_code 0 = .ok (.aload_n 0, 1) := by decide +kernel
theorem d_M_number_1 : decode prog_14_method_61_code 1 = .ok (.iconst 0, 1) := by decide +kernel
theorem d_M_number_2 : decode prog_14_method_61_code 2 = .ok (.putfield 132, 3) := by decide +kernel
theorem d_M_number_5 : decode prog_14_method_61_code 5 = .ok (.aload_n 0, 1) := by decide +kernel
theorem d_M_number_6 : decode prog_14_method_61_code 6 = .ok (.iload_n 1, 1) := by decide +kernel
theorem d_M_number_7 : decode prog_14_method_61_code 7 = .ok (.invokevirtual 309, 3) := by decide +kernel
theorem d_M_number_10 : decode prog_14_method_61_code 10 = .ok (.ifCond .eq 19, 3) := by decide +kernel
theorem d_M_number_29 : decode prog_14_method_61_code 29 = .ok (.iconst (-1), 1) := by decide +kernel
theorem d_M_number_30 : decode prog_14_method_61_code 30 = .ok (.ireturn, 1) := by decide +kernel
theorem d_M_number_13 : decode prog_14_method_61_code 13 = .ok (.iload_n 2, 1) := by decide +kernel
theorem d_M_number_14 : decode prog_14_method_61_code 14 = .ok (.invokestatic 280, 3) := by decide +kernel
theorem d_M_number_17 : decode prog_14_method_61_code 17 = .ok (.ifCond .eq 12, 3) := by decide +kernel
theorem d_M_number_20 : decode prog_14_method_61_code 20 = .ok (.aload_n 0, 1) := by decide +kernel
theorem d_M_number_21 : decode prog_14_method_61_code 21 = .ok (.iload_n 1, 1) := by decide +kernel
theorem d_M_number_22 : decode prog_14_method_61_code 22 = .ok (.iload_n 2, 1) := by decide +kernel
theorem d_M_number_23 : decode prog_14_method_61_code 23 = .ok (.invokevirtual 361, 3) := by decide +kernel
theorem d_M_number_26 : decode prog_14_method_61_code 26 = .ok (.goto 4, 3) := by decide +kernel
theorem d_M_pair_0 : decode prog_14_method_62_code 0 = .ok (.aload_n 0, 1) := by decide +kernel
theorem d_M_pair_1 : decode prog_14_method_62_code 1 = .ok (.iconst 0, 1) := by decide +kernel
theorem d_M_pair_2 : decode prog_14_method_62_code 2 = .ok (.putfield 132, 3) := by decide +kernel
theorem d_M_pair_5 : decode prog_14_method_62_code 5 = .ok (.aload_n 0, 1) := by decide +kernel
theorem d_M_pair_6 : decode prog_14_method_62_code 6 = .ok (.iload_n 1, 1) := by decide +kernel
theorem d_M_pair_7 : decode prog_14_method_62_code 7 = .ok (.invokevirtual 309, 3) := by decide +kernel
theorem d_M_pair_10 : decode prog_14_method_62_code 10 = .ok (.ifCond .eq 17, 3) := by decide +kernel
theorem d_M_pair_27 : decode prog_14_method_62_code 27 = .ok (.iconst (-1), 1) := by decide +kernel
theorem d_M_pair_28 : decode prog_14_method_62_code 28 = .ok (.ireturn, 1) := by decide +kernel
theorem d_M_pair_13 : decode prog_14_method_62_code 13 = .ok (.iload_n 2, 1) := by decide +kernel
theorem d_M_pair_14 : decode prog_14_method_62_code 14 = .ok (.invokestatic 280, 3) := by decide +kernel
theorem d_M_pair_17 : decode prog_14_method_62_code 17 = .ok (.ifCond .eq 10, 3) := by decide +kernel
theorem d_M_pair_20 : decode prog_14_method_62_code 20 = .ok (.iload_n 3, 1) := by decide +kernel
theorem d_M_pair_21 : decode prog_14_method_62_code 21 = .ok (.invokestatic 280, 3) := by decide +kernel
theorem d_M_pair_24 : decode prog_14_method_62_code 24 = .ok (.ifCond .ne 5, 3) := by decide +kernel
theorem d_M_pair_29 : decode prog_14_method_62_code 29 = .ok (.iconst 0, 1) := by decide +kernel
theorem d_M_pair_30 : decode prog_14_method_62_code 30 = .ok (.istore 4, 2) := by decide +kernel
theorem d_M_pair_32 : decode prog_14_method_62_code 32 = .ok (.iconst 0, 1) := by decide +kernel
theorem d_M_pair_33 : decode prog_14_method_62_code 33 = .ok (.istore 5, 2) := by decide +kernel
theorem d_M_pair_35 : decode prog_14_method_62_code 35 = .ok (.iload 5, 2) := by decide +kernel
theorem d_M_pair_37 : decode prog_14_method_62_code 37 = .ok (.iload_n 1, 1) := by decide +kernel
theorem d_M_pair_38 : decode prog_14_method_62_code 38 = .ok (.if_icmp .gt 50, 3) := by decide +kernel
theorem d_M_pair_41 : decode prog_14_method_62_code 41 = .ok (.aload_n 0, 1) := by decide +kernel
theorem d_M_pair_42 : decode prog_14_method_62_code 42 = .ok (.getfield 48, 3) := by decide +kernel
theorem d_M_pair_45 : decode prog_14_method_62_code 45 = .ok (.iload 5, 2) := by decide +kernel
theorem d_M_pair_47 : decode prog_14_method_62_code 47 = .ok (.iaload, 1) := by decide +kernel
theorem d_M_pair_48 : decode prog_14_method_62_code 48 = .ok (.iload_n 3, 1) := by decide +kernel
theorem d_M_pair_49 : decode prog_14_method_62_code 49 = .ok (.if_icmp .ne 33, 3) := by decide +kernel
theorem d_M_pair_82 : decode prog_14_method_62_code 82 = .ok (.iinc 5 1, 3) := by decide +kernel
theorem d_M_pair_85 : decode prog_14_method_62_code 85 = .ok (.goto (-50), 3) := by decide +kernel
theorem d_M_pair_52 : decode prog_14_method_62_code 52 = .ok (.iload 5, 2) := by decide +kernel
theorem d_M_pair_54 : decode prog_14_method_62_code 54 = .ok (.iload_n 1, 1) := by decide +kernel
theorem d_M_pair_55 : decode prog_14_method_62_code 55 = .ok (.if_icmp .eq 13, 3) := by decide +kernel
theorem d_M_pair_68 : decode prog_14_method_62_code 68 = .ok (.iload 4, 2) := by decide +kernel
theorem d_M_pair_70 : decode prog_14_method_62_code 70 = .ok (.aload_n 0, 1) := by decide +kernel
theorem d_M_pair_71 : decode prog_14_method_62_code 71 = .ok (.iload 5, 2) := by decide +kernel
theorem d_M_pair_73 : decode prog_14_method_62_code 73 = .ok (.iload_n 2, 1) := by decide +kernel
theorem d_M_pair_74 : decode prog_14_method_62_code 74 = .ok (.invokevirtual 361, 3) := by decide +kernel
theorem d_M_pair_77 : decode prog_14_method_62_code 77 = .ok (.invokestatic 358, 3) := by decide +kernel
theorem d_M_pair_80 : decode prog_14_method_62_code 80 = .ok (.istore 4, 2) := by decide +kernel
theorem d_M_pair_58 : decode prog_14_method_62_code 58 = .ok (.aload_n 0, 1) := by decide +kernel
theorem d_M_pair_59 : decode prog_14_method_62_code 59 = .ok (.iload 5, 2) := by decide +kernel
theorem d_M_pair_61 : decode prog_14_method_62_code 61 = .ok (.iload_n 1, 1) := by decide +kernel
theorem d_M_pair_62 : decode prog_14_method_62_code 62 = .ok (.invokevirtual 350, 3) := by decide +kernel
theorem d_M_pair_65 : decode prog_14_method_62_code 65 = .ok (.ifCond .eq 17, 3) := by decide +kernel
theorem d_M_pair_88 : decode prog_14_method_62_code 88 = .ok (.iload 4, 2) := by decide +kernel
theorem d_M_pair_90 : decode prog_14_method_62_code 90 = .ok (.ireturn, 1) := by decide +kernel
theorem d_M_listOf_0 : decode prog_14_method_63_code 0 = .ok (.aload_n 0, 1) := by decide +kernel
theorem d_M_listOf_1 : decode prog_14_method_63_code 1 = .ok (.getfield 69, 3) := by decide +kernel
theorem d_M_listOf_4 : decode prog_14_method_63_code 4 = .ok (.iload_n 1, 1) := by decide +kernel
theorem d_M_listOf_5 : decode prog_14_method_63_code 5 = .ok (.iaload, 1) := by decide +kernel
theorem d_M_listOf_6 : decode prog_14_method_63_code 6 = .ok (.istore_n 2, 1) := by decide +kernel
theorem d_M_listOf_7 : decode prog_14_method_63_code 7 = .ok (.iconst 0, 1) := by decide +kernel
theorem d_M_listOf_8 : decode prog_14_method_63_code 8 = .ok (.istore_n 3, 1) := by decide +kernel
theorem d_M_listOf_9 : decode prog_14_method_63_code 9 = .ok (.iload_n 3, 1) := by decide +kernel
theorem d_M_listOf_10 : decode prog_14_method_63_code 10 = .ok (.iload_n 1, 1) := by decide +kernel
theorem d_M_listOf_11 : decode prog_14_method_63_code 11 = .ok (.if_icmp .ge 29, 3) := by decide +kernel
theorem d_M_listOf_14 : decode prog_14_method_63_code 14 = .ok (.aload_n 0, 1) := by decide +kernel
theorem d_M_listOf_15 : decode prog_14_method_63_code 15 = .ok (.iload_n 3, 1) := by decide +kernel
theorem d_M_listOf_16 : decode prog_14_method_63_code 16 = .ok (.iload_n 1, 1) := by decide +kernel
theorem d_M_listOf_17 : decode prog_14_method_63_code 17 = .ok (.invokevirtual 350, 3) := by decide +kernel
theorem d_M_listOf_20 : decode prog_14_method_63_code 20 = .ok (.ifCond .eq 14, 3) := by decide +kernel
theorem d_M_listOf_34 : decode prog_14_method_63_code 34 = .ok (.iinc 3 1, 3) := by decide +kernel
theorem d_M_listOf_37 : decode prog_14_method_63_code 37 = .ok (.goto (-28), 3) := by decide +kernel
theorem d_M_listOf_23 : decode prog_14_method_63_code 23 = .ok (.iload_n 2, 1) := by decide +kernel
theorem d_M_listOf_24 : decode prog_14_method_63_code 24 = .ok (.aload_n 0, 1) := by decide +kernel
theorem d_M_listOf_25 : decode prog_14_method_63_code 25 = .ok (.getfield 69, 3) := by decide +kernel
theorem d_M_listOf_28 : decode prog_14_method_63_code 28 = .ok (.iload_n 3, 1) := by decide +kernel
theorem d_M_listOf_29 : decode prog_14_method_63_code 29 = .ok (.iaload, 1) := by decide +kernel
theorem d_M_listOf_30 : decode prog_14_method_63_code 30 = .ok (.iconst (-1), 1) := by decide +kernel
theorem d_M_listOf_31 : decode prog_14_method_63_code 31 = .ok (.ixor, 1) := by decide +kernel
theorem d_M_listOf_32 : decode prog_14_method_63_code 32 = .ok (.iand, 1) := by decide +kernel
theorem d_M_listOf_33 : decode prog_14_method_63_code 33 = .ok (.istore_n 2, 1) := by decide +kernel
theorem d_M_listOf_40 : decode prog_14_method_63_code 40 = .ok (.iload_n 2, 1) := by decide +kernel
theorem d_M_listOf_41 : decode prog_14_method_63_code 41 = .ok (.ireturn, 1) := by decide +kernel
theorem d_M_list_0 : decode prog_14_method_64_code 0 = .ok (.aload_n 0, 1) := by decide +kernel
theorem d_M_list_1 : decode prog_14_method_64_code 1 = .ok (.iconst 0, 1) := by decide +kernel
theorem d_M_list_2 : decode prog_14_method_64_code 2 = .ok (.putfield 132, 3) := by decide +kernel
theorem d_M_list_5 : decode prog_14_method_64_code 5 = .ok (.aload_n 0, 1) := by decide +kernel
theorem d_M_list_6 : decode prog_14_method_64_code 6 = .ok (.iload_n 1, 1) := by decide +kernel
theorem d_M_list_7 : decode prog_14_method_64_code 7 = .ok (.invokevirtual 309, 3) := by decide +kernel
theorem d_M_list_10 : decode prog_14_method_64_code 10 = .ok (.ifCond .eq 11, 3) := by decide +kernel
theorem d_M_list_21 : decode prog_14_method_64_code 21 = .ok (.iconst (-1), 1) := by decide +kernel
theorem d_M_list_22 : decode prog_14_method_64_code 22 = .ok (.ireturn, 1) := by decide +kernel
theorem d_M_list_13 : decode prog_14_method_64_code 13 = .ok (.aload_n 0, 1) := by decide +kernel
theorem d_M_list_14 : decode prog_14_method_64_code 14 = .ok (.iload_n 1, 1) := by decide +kernel
theorem d_M_list_15 : decode prog_14_method_64_code 15 = .ok (.invokevirtual 364, 3) := by decide +kernel
theorem d_M_list_18 : decode prog_14_method_64_code 18 = .ok (.goto 4, 3) := by decide +kernel
theorem d_M_through_0 : decode prog_14_method_66_code 0 = .ok (.iload_n 2, 1) := by decide +kernel
theorem d_M_through_1 : decode prog_14_method_66_code 1 = .ok (.iconst (-1), 1) := by decide +kernel
theorem d_M_through_2 : decode prog_14_method_66_code 2 = .ok (.if_icmp .eq 16, 3) := by decide +kernel
theorem d_M_through_18 : decode prog_14_method_66_code 18 = .ok (.return_, 1) := by decide +kernel
theorem d_M_through_5 : decode prog_14_method_66_code 5 = .ok (.iload_n 3, 1) := by decide +kernel
theorem d_M_through_6 : decode prog_14_method_66_code 6 = .ok (.ifCond .eq 13, 3) := by decide +kernel
theorem d_M_through_19 : decode prog_14_method_66_code 19 = .ok (.aload_n 0, 1) := by decide +kernel
theorem d_M_through_20 : decode prog_14_method_66_code 20 = .ok (.getfield 108, 3) := by decide +kernel
theorem d_M_through_23 : decode prog_14_method_66_code 23 = .ok (.iload_n 1, 1) := by decide +kernel
theorem d_M_through_24 : decode prog_14_method_66_code 24 = .ok (.dup2, 1) := by decide +kernel
theorem d_M_through_25 : decode prog_14_method_66_code 25 = .ok (.iaload, 1) := by decide +kernel
theorem d_M_through_26 : decode prog_14_method_66_code 26 = .ok (.iconst 1, 1) := by decide +kernel
theorem d_M_through_27 : decode prog_14_method_66_code 27 = .ok (.iload_n 2, 1) := by decide +kernel
theorem d_M_through_28 : decode prog_14_method_66_code 28 = .ok (.ishl, 1) := by decide +kernel
theorem d_M_through_29 : decode prog_14_method_66_code 29 = .ok (.aload_n 0, 1) := by decide +kernel
theorem d_M_through_30 : decode prog_14_method_66_code 30 = .ok (.getfield 108, 3) := by decide +kernel
theorem d_M_through_33 : decode prog_14_method_66_code 33 = .ok (.iload_n 2, 1) := by decide +kernel
theorem d_M_through_34 : decode prog_14_method_66_code 34 = .ok (.iaload, 1) := by decide +kernel
theorem d_M_through_35 : decode prog_14_method_66_code 35 = .ok (.ior, 1) := by decide +kernel
theorem d_M_through_36 : decode prog_14_method_66_code 36 = .ok (.ior, 1) := by decide +kernel
theorem d_M_through_37 : decode prog_14_method_66_code 37 = .ok (.iastore, 1) := by decide +kernel
theorem d_M_through_38 : decode prog_14_method_66_code 38 = .ok (.return_, 1) := by decide +kernel
theorem d_M_through_9 : decode prog_14_method_66_code 9 = .ok (.aload_n 0, 1) := by decide +kernel
theorem d_M_through_10 : decode prog_14_method_66_code 10 = .ok (.getfield 72, 3) := by decide +kernel
theorem d_M_through_13 : decode prog_14_method_66_code 13 = .ok (.iload_n 2, 1) := by decide +kernel
theorem d_M_through_14 : decode prog_14_method_66_code 14 = .ok (.baload, 1) := by decide +kernel
theorem d_M_through_15 : decode prog_14_method_66_code 15 = .ok (.ifCond .eq 4, 3) := by decide +kernel
theorem d_M_byAnswers_0 : decode prog_14_method_65_code 0 = .ok (.iconst 0, 1) := by decide +kernel
theorem d_M_byAnswers_1 : decode prog_14_method_65_code 1 = .ok (.istore_n 2, 1) := by decide +kernel
theorem d_M_byAnswers_2 : decode prog_14_method_65_code 2 = .ok (.iload_n 2, 1) := by decide +kernel
theorem d_M_byAnswers_3 : decode prog_14_method_65_code 3 = .ok (.aload_n 0, 1) := by decide +kernel
theorem d_M_byAnswers_4 : decode prog_14_method_65_code 4 = .ok (.getfield 277, 3) := by decide +kernel
theorem d_M_byAnswers_7 : decode prog_14_method_65_code 7 = .ok (.if_icmp .ge 56, 3) := by decide +kernel
theorem d_M_byAnswers_10 : decode prog_14_method_65_code 10 = .ok (.aload_n 0, 1) := by decide +kernel
theorem d_M_byAnswers_11 : decode prog_14_method_65_code 11 = .ok (.getfield 108, 3) := by decide +kernel
theorem d_M_byAnswers_14 : decode prog_14_method_65_code 14 = .ok (.iload_n 2, 1) := by decide +kernel
theorem d_M_byAnswers_15 : decode prog_14_method_65_code 15 = .ok (.iconst 0, 1) := by decide +kernel
theorem d_M_byAnswers_16 : decode prog_14_method_65_code 16 = .ok (.iastore, 1) := by decide +kernel
theorem d_M_byAnswers_17 : decode prog_14_method_65_code 17 = .ok (.iload_n 1, 1) := by decide +kernel
theorem d_M_byAnswers_18 : decode prog_14_method_65_code 18 = .ok (.ifCond .eq 15, 3) := by decide +kernel
theorem d_M_byAnswers_33 : decode prog_14_method_65_code 33 = .ok (.aload_n 0, 1) := by decide +kernel
theorem d_M_byAnswers_34 : decode prog_14_method_65_code 34 = .ok (.iload_n 2, 1) := by decide +kernel
theorem d_M_byAnswers_35 : decode prog_14_method_65_code 35 = .ok (.aload_n 0, 1) := by decide +kernel
theorem d_M_byAnswers_36 : decode prog_14_method_65_code 36 = .ok (.getfield 60, 3) := by decide +kernel
theorem d_M_byAnswers_39 : decode prog_14_method_65_code 39 = .ok (.iload_n 2, 1) := by decide +kernel
theorem d_M_byAnswers_40 : decode prog_14_method_65_code 40 = .ok (.iaload, 1) := by decide +kernel
theorem d_M_byAnswers_41 : decode prog_14_method_65_code 41 = .ok (.iload_n 1, 1) := by decide +kernel
theorem d_M_byAnswers_42 : decode prog_14_method_65_code 42 = .ok (.invokevirtual 367, 3) := by decide +kernel
theorem d_M_byAnswers_45 : decode prog_14_method_65_code 45 = .ok (.aload_n 0, 1) := by decide +kernel
theorem d_M_byAnswers_46 : decode prog_14_method_65_code 46 = .ok (.iload_n 2, 1) := by decide +kernel
theorem d_M_byAnswers_47 : decode prog_14_method_65_code 47 = .ok (.aload_n 0, 1) := by decide +kernel
theorem d_M_byAnswers_48 : decode prog_14_method_65_code 48 = .ok (.getfield 63, 3) := by decide +kernel
theorem d_M_byAnswers_51 : decode prog_14_method_65_code 51 = .ok (.iload_n 2, 1) := by decide +kernel
theorem d_M_byAnswers_52 : decode prog_14_method_65_code 52 = .ok (.iaload, 1) := by decide +kernel
theorem d_M_byAnswers_53 : decode prog_14_method_65_code 53 = .ok (.iload_n 1, 1) := by decide +kernel
theorem d_M_byAnswers_54 : decode prog_14_method_65_code 54 = .ok (.invokevirtual 367, 3) := by decide +kernel
theorem d_M_byAnswers_57 : decode prog_14_method_65_code 57 = .ok (.iinc 2 1, 3) := by decide +kernel
theorem d_M_byAnswers_60 : decode prog_14_method_65_code 60 = .ok (.goto (-58), 3) := by decide +kernel
theorem d_M_byAnswers_21 : decode prog_14_method_65_code 21 = .ok (.aload_n 0, 1) := by decide +kernel
theorem d_M_byAnswers_22 : decode prog_14_method_65_code 22 = .ok (.getfield 72, 3) := by decide +kernel
theorem d_M_byAnswers_25 : decode prog_14_method_65_code 25 = .ok (.iload_n 2, 1) := by decide +kernel
theorem d_M_byAnswers_26 : decode prog_14_method_65_code 26 = .ok (.baload, 1) := by decide +kernel
theorem d_M_byAnswers_27 : decode prog_14_method_65_code 27 = .ok (.ifCond .eq 6, 3) := by decide +kernel
theorem d_M_byAnswers_30 : decode prog_14_method_65_code 30 = .ok (.goto 27, 3) := by decide +kernel
theorem d_M_byAnswers_63 : decode prog_14_method_65_code 63 = .ok (.return_, 1) := by decide +kernel
theorem d_M_byLists_0 : decode prog_14_method_67_code 0 = .ok (.iconst 0, 1) := by decide +kernel
theorem d_M_byLists_1 : decode prog_14_method_67_code 1 = .ok (.istore_n 1, 1) := by decide +kernel
theorem d_M_byLists_2 : decode prog_14_method_67_code 2 = .ok (.iload_n 1, 1) := by decide +kernel
theorem d_M_byLists_3 : decode prog_14_method_67_code 3 = .ok (.aload_n 0, 1) := by decide +kernel
theorem d_M_byLists_4 : decode prog_14_method_67_code 4 = .ok (.getfield 277, 3) := by decide +kernel
theorem d_M_byLists_7 : decode prog_14_method_67_code 7 = .ok (.if_icmp .ge 59, 3) := by decide +kernel
theorem d_M_byLists_10 : decode prog_14_method_67_code 10 = .ok (.aload_n 0, 1) := by decide +kernel
theorem d_M_byLists_11 : decode prog_14_method_67_code 11 = .ok (.iload_n 1, 1) := by decide +kernel
theorem d_M_byLists_12 : decode prog_14_method_67_code 12 = .ok (.invokevirtual 364, 3) := by decide +kernel
theorem d_M_byLists_15 : decode prog_14_method_67_code 15 = .ok (.istore_n 2, 1) := by decide +kernel
theorem d_M_byLists_16 : decode prog_14_method_67_code 16 = .ok (.aload_n 0, 1) := by decide +kernel
theorem d_M_byLists_17 : decode prog_14_method_67_code 17 = .ok (.getfield 108, 3) := by decide +kernel
theorem d_M_byLists_20 : decode prog_14_method_67_code 20 = .ok (.iload_n 1, 1) := by decide +kernel
theorem d_M_byLists_21 : decode prog_14_method_67_code 21 = .ok (.iload_n 2, 1) := by decide +kernel
theorem d_M_byLists_22 : decode prog_14_method_67_code 22 = .ok (.iastore, 1) := by decide +kernel
theorem d_M_byLists_23 : decode prog_14_method_67_code 23 = .ok (.iconst 0, 1) := by decide +kernel
theorem d_M_byLists_24 : decode prog_14_method_67_code 24 = .ok (.istore_n 3, 1) := by decide +kernel
theorem d_M_byLists_25 : decode prog_14_method_67_code 25 = .ok (.iload_n 3, 1) := by decide +kernel
theorem d_M_byLists_26 : decode prog_14_method_67_code 26 = .ok (.iload_n 1, 1) := by decide +kernel
theorem d_M_byLists_27 : decode prog_14_method_67_code 27 = .ok (.if_icmp .ge 33, 3) := by decide +kernel
theorem d_M_byLists_30 : decode prog_14_method_67_code 30 = .ok (.iload_n 2, 1) := by decide +kernel
theorem d_M_byLists_31 : decode prog_14_method_67_code 31 = .ok (.iload_n 3, 1) := by decide +kernel
theorem d_M_byLists_32 : decode prog_14_method_67_code 32 = .ok (.ishr, 1) := by decide +kernel
theorem d_M_byLists_33 : decode prog_14_method_67_code 33 = .ok (.iconst 1, 1) := by decide +kernel
theorem d_M_byLists_34 : decode prog_14_method_67_code 34 = .ok (.iand, 1) := by decide +kernel
theorem d_M_byLists_35 : decode prog_14_method_67_code 35 = .ok (.iconst 1, 1) := by decide +kernel
theorem d_M_byLists_36 : decode prog_14_method_67_code 36 = .ok (.if_icmp .ne 18, 3) := by decide +kernel
theorem d_M_byLists_54 : decode prog_14_method_67_code 54 = .ok (.iinc 3 1, 3) := by decide +kernel
theorem d_M_byLists_57 : decode prog_14_method_67_code 57 = .ok (.goto (-32), 3) := by decide +kernel
theorem d_M_byLists_39 : decode prog_14_method_67_code 39 = .ok (.aload_n 0, 1) := by decide +kernel
theorem d_M_byLists_40 : decode prog_14_method_67_code 40 = .ok (.getfield 108, 3) := by decide +kernel
theorem d_M_byLists_43 : decode prog_14_method_67_code 43 = .ok (.iload_n 1, 1) := by decide +kernel
theorem d_M_byLists_44 : decode prog_14_method_67_code 44 = .ok (.dup2, 1) := by decide +kernel
theorem d_M_byLists_45 : decode prog_14_method_67_code 45 = .ok (.iaload, 1) := by decide +kernel
theorem d_M_byLists_46 : decode prog_14_method_67_code 46 = .ok (.aload_n 0, 1) := by decide +kernel
theorem d_M_byLists_47 : decode prog_14_method_67_code 47 = .ok (.getfield 108, 3) := by decide +kernel
theorem d_M_byLists_50 : decode prog_14_method_67_code 50 = .ok (.iload_n 3, 1) := by decide +kernel
theorem d_M_byLists_51 : decode prog_14_method_67_code 51 = .ok (.iaload, 1) := by decide +kernel
theorem d_M_byLists_52 : decode prog_14_method_67_code 52 = .ok (.ior, 1) := by decide +kernel
theorem d_M_byLists_53 : decode prog_14_method_67_code 53 = .ok (.iastore, 1) := by decide +kernel
theorem d_M_byLists_60 : decode prog_14_method_67_code 60 = .ok (.iinc 1 1, 3) := by decide +kernel
theorem d_M_byLists_63 : decode prog_14_method_67_code 63 = .ok (.goto (-61), 3) := by decide +kernel
theorem d_M_byLists_66 : decode prog_14_method_67_code 66 = .ok (.return_, 1) := by decide +kernel
theorem d_M_bears_0 : decode prog_14_method_68_code 0 = .ok (.iload_n 1, 1) := by decide +kernel
theorem d_M_bears_1 : decode prog_14_method_68_code 1 = .ok (.ifCond .ne 11, 3) := by decide +kernel
theorem d_M_bears_12 : decode prog_14_method_68_code 12 = .ok (.iload_n 1, 1) := by decide +kernel
theorem d_M_bears_13 : decode prog_14_method_68_code 13 = .ok (.iconst 3, 1) := by decide +kernel
theorem d_M_bears_14 : decode prog_14_method_68_code 14 = .ok (.if_icmp .ne 7, 3) := by decide +kernel
theorem d_M_bears_21 : decode prog_14_method_68_code 21 = .ok (.return_, 1) := by decide +kernel
theorem d_M_bears_17 : decode prog_14_method_68_code 17 = .ok (.aload_n 0, 1) := by decide +kernel
theorem d_M_bears_18 : decode prog_14_method_68_code 18 = .ok (.invokevirtual 374, 3) := by decide +kernel
theorem d_M_bears_4 : decode prog_14_method_68_code 4 = .ok (.aload_n 0, 1) := by decide +kernel
theorem d_M_bears_5 : decode prog_14_method_68_code 5 = .ok (.iconst 0, 1) := by decide +kernel
theorem d_M_bears_6 : decode prog_14_method_68_code 6 = .ok (.invokevirtual 371, 3) := by decide +kernel
theorem d_M_bears_9 : decode prog_14_method_68_code 9 = .ok (.goto 12, 3) := by decide +kernel
theorem d_M_isTold_0 : decode prog_14_method_69_code 0 = .ok (.iload_n 3, 1) := by decide +kernel
theorem d_M_isTold_1 : decode prog_14_method_69_code 1 = .ok (.iconst 1, 1) := by decide +kernel
theorem d_M_isTold_2 : decode prog_14_method_69_code 2 = .ok (.if_icmp .ne 22, 3) := by decide +kernel
theorem d_M_isTold_24 : decode prog_14_method_69_code 24 = .ok (.iload_n 3, 1) := by decide +kernel
theorem d_M_isTold_25 : decode prog_14_method_69_code 25 = .ok (.iconst 2, 1) := by decide +kernel
theorem d_M_isTold_26 : decode prog_14_method_69_code 26 = .ok (.if_icmp .ne 34, 3) := by decide +kernel
theorem d_M_isTold_60 : decode prog_14_method_69_code 60 = .ok (.aload_n 0, 1) := by decide +kernel
theorem d_M_isTold_61 : decode prog_14_method_69_code 61 = .ok (.getfield 108, 3) := by decide +kernel
theorem d_M_isTold_64 : decode prog_14_method_69_code 64 = .ok (.iload_n 2, 1) := by decide +kernel
theorem d_M_isTold_65 : decode prog_14_method_69_code 65 = .ok (.iaload, 1) := by decide +kernel
theorem d_M_isTold_66 : decode prog_14_method_69_code 66 = .ok (.iload_n 1, 1) := by decide +kernel
theorem d_M_isTold_67 : decode prog_14_method_69_code 67 = .ok (.ishr, 1) := by decide +kernel
theorem d_M_isTold_68 : decode prog_14_method_69_code 68 = .ok (.iconst 1, 1) := by decide +kernel
theorem d_M_isTold_69 : decode prog_14_method_69_code 69 = .ok (.iand, 1) := by decide +kernel
theorem d_M_isTold_70 : decode prog_14_method_69_code 70 = .ok (.iconst 1, 1) := by decide +kernel
theorem d_M_isTold_71 : decode prog_14_method_69_code 71 = .ok (.if_icmp .ne 7, 3) := by decide +kernel
theorem d_M_isTold_78 : decode prog_14_method_69_code 78 = .ok (.iconst 0, 1) := by decide +kernel
theorem d_M_isTold_79 : decode prog_14_method_69_code 79 = .ok (.ireturn, 1) := by decide +kernel
theorem d_M_isTold_74 : decode prog_14_method_69_code 74 = .ok (.iconst 1, 1) := by decide +kernel
theorem d_M_isTold_75 : decode prog_14_method_69_code 75 = .ok (.goto 4, 3) := by decide +kernel
theorem d_M_isTold_29 : decode prog_14_method_69_code 29 = .ok (.aload_n 0, 1) := by decide +kernel
theorem d_M_isTold_30 : decode prog_14_method_69_code 30 = .ok (.iload_n 2, 1) := by decide +kernel
theorem d_M_isTold_31 : decode prog_14_method_69_code 31 = .ok (.aload_n 0, 1) := by decide +kernel
theorem d_M_isTold_32 : decode prog_14_method_69_code 32 = .ok (.getfield 48, 3) := by decide +kernel
theorem d_M_isTold_35 : decode prog_14_method_69_code 35 = .ok (.iload_n 1, 1) := by decide +kernel
theorem d_M_isTold_36 : decode prog_14_method_69_code 36 = .ok (.iaload, 1) := by decide +kernel
theorem d_M_isTold_37 : decode prog_14_method_69_code 37 = .ok (.invokevirtual 361, 3) := by decide +kernel
theorem d_M_isTold_40 : decode prog_14_method_69_code 40 = .ok (.aload_n 0, 1) := by decide +kernel
theorem d_M_isTold_41 : decode prog_14_method_69_code 41 = .ok (.iload_n 1, 1) := by decide +kernel
theorem d_M_isTold_42 : decode prog_14_method_69_code 42 = .ok (.aload_n 0, 1) := by decide +kernel
theorem d_M_isTold_43 : decode prog_14_method_69_code 43 = .ok (.getfield 48, 3) := by decide +kernel
theorem d_M_isTold_46 : decode prog_14_method_69_code 46 = .ok (.iload_n 1, 1) := by decide +kernel
theorem d_M_isTold_47 : decode prog_14_method_69_code 47 = .ok (.iaload, 1) := by decide +kernel
theorem d_M_isTold_48 : decode prog_14_method_69_code 48 = .ok (.invokevirtual 361, 3) := by decide +kernel
theorem d_M_isTold_51 : decode prog_14_method_69_code 51 = .ok (.if_icmp .lt 7, 3) := by decide +kernel
theorem d_M_isTold_58 : decode prog_14_method_69_code 58 = .ok (.iconst 0, 1) := by decide +kernel
theorem d_M_isTold_59 : decode prog_14_method_69_code 59 = .ok (.ireturn, 1) := by decide +kernel
theorem d_M_isTold_54 : decode prog_14_method_69_code 54 = .ok (.iconst 1, 1) := by decide +kernel
theorem d_M_isTold_55 : decode prog_14_method_69_code 55 = .ok (.goto 4, 3) := by decide +kernel
theorem d_M_isTold_5 : decode prog_14_method_69_code 5 = .ok (.aload_n 0, 1) := by decide +kernel
theorem d_M_isTold_6 : decode prog_14_method_69_code 6 = .ok (.iload_n 1, 1) := by decide +kernel
theorem d_M_isTold_7 : decode prog_14_method_69_code 7 = .ok (.invokevirtual 335, 3) := by decide +kernel
theorem d_M_isTold_10 : decode prog_14_method_69_code 10 = .ok (.aload_n 0, 1) := by decide +kernel
theorem d_M_isTold_11 : decode prog_14_method_69_code 11 = .ok (.iload_n 2, 1) := by decide +kernel
theorem d_M_isTold_12 : decode prog_14_method_69_code 12 = .ok (.invokevirtual 335, 3) := by decide +kernel
theorem d_M_isTold_15 : decode prog_14_method_69_code 15 = .ok (.if_icmp .ge 7, 3) := by decide +kernel
theorem d_M_isTold_22 : decode prog_14_method_69_code 22 = .ok (.iconst 0, 1) := by decide +kernel
theorem d_M_isTold_23 : decode prog_14_method_69_code 23 = .ok (.ireturn, 1) := by decide +kernel
theorem d_M_isTold_18 : decode prog_14_method_69_code 18 = .ok (.iconst 1, 1) := by decide +kernel
theorem d_M_isTold_19 : decode prog_14_method_69_code 19 = .ok (.goto 4, 3) := by decide +kernel
theorem d_M_tells_0 : decode prog_14_method_70_code 0 = .ok (.aload_n 0, 1) := by decide +kernel
theorem d_M_tells_1 : decode prog_14_method_70_code 1 = .ok (.iconst 0, 1) := by decide +kernel
theorem d_M_tells_2 : decode prog_14_method_70_code 2 = .ok (.putfield 132, 3) := by decide +kernel
theorem d_M_tells_5 : decode prog_14_method_70_code 5 = .ok (.aload_n 0, 1) := by decide +kernel
theorem d_M_tells_6 : decode prog_14_method_70_code 6 = .ok (.iload_n 1, 1) := by decide +kernel
theorem d_M_tells_7 : decode prog_14_method_70_code 7 = .ok (.invokevirtual 309, 3) := by decide +kernel
theorem d_M_tells_10 : decode prog_14_method_70_code 10 = .ok (.ifCond .eq 25, 3) := by decide +kernel
theorem d_M_tells_35 : decode prog_14_method_70_code 35 = .ok (.iconst (-1), 1) := by decide +kernel
theorem d_M_tells_36 : decode prog_14_method_70_code 36 = .ok (.ireturn, 1) := by decide +kernel
theorem d_M_tells_13 : decode prog_14_method_70_code 13 = .ok (.aload_n 0, 1) := by decide +kernel
theorem d_M_tells_14 : decode prog_14_method_70_code 14 = .ok (.iload_n 2, 1) := by decide +kernel
theorem d_M_tells_15 : decode prog_14_method_70_code 15 = .ok (.invokevirtual 309, 3) := by decide +kernel
theorem d_M_tells_18 : decode prog_14_method_70_code 18 = .ok (.ifCond .eq 17, 3) := by decide +kernel
theorem d_M_tells_21 : decode prog_14_method_70_code 21 = .ok (.iload_n 1, 1) := by decide +kernel
theorem d_M_tells_22 : decode prog_14_method_70_code 22 = .ok (.iload_n 2, 1) := by decide +kernel
theorem d_M_tells_23 : decode prog_14_method_70_code 23 = .ok (.if_icmp .eq 12, 3) := by decide +kernel
theorem d_M_tells_26 : decode prog_14_method_70_code 26 = .ok (.iload_n 3, 1) := by decide +kernel
theorem d_M_tells_27 : decode prog_14_method_70_code 27 = .ok (.ifCond .lt 8, 3) := by decide +kernel
theorem d_M_tells_30 : decode prog_14_method_70_code 30 = .ok (.iload_n 3, 1) := by decide +kernel
theorem d_M_tells_31 : decode prog_14_method_70_code 31 = .ok (.iconst 3, 1) := by decide +kernel
theorem d_M_tells_32 : decode prog_14_method_70_code 32 = .ok (.if_icmp .le 5, 3) := by decide +kernel
theorem d_M_tells_37 : decode prog_14_method_70_code 37 = .ok (.aload_n 0, 1) := by decide +kernel
theorem d_M_tells_38 : decode prog_14_method_70_code 38 = .ok (.iload_n 3, 1) := by decide +kernel
theorem d_M_tells_39 : decode prog_14_method_70_code 39 = .ok (.invokevirtual 377, 3) := by decide +kernel
theorem d_M_tells_42 : decode prog_14_method_70_code 42 = .ok (.aload_n 0, 1) := by decide +kernel
theorem d_M_tells_43 : decode prog_14_method_70_code 43 = .ok (.iload_n 1, 1) := by decide +kernel
theorem d_M_tells_44 : decode prog_14_method_70_code 44 = .ok (.iload_n 2, 1) := by decide +kernel
theorem d_M_tells_45 : decode prog_14_method_70_code 45 = .ok (.iload_n 3, 1) := by decide +kernel
theorem d_M_tells_46 : decode prog_14_method_70_code 46 = .ok (.invokevirtual 380, 3) := by decide +kernel
theorem d_M_tells_49 : decode prog_14_method_70_code 49 = .ok (.invokestatic 270, 3) := by decide +kernel
theorem d_M_tells_52 : decode prog_14_method_70_code 52 = .ok (.ireturn, 1) := by decide +kernel
theorem d_M_errs_0 : decode prog_14_method_71_code 0 = .ok (.aload_n 0, 1) := by decide +kernel
theorem d_M_errs_1 : decode prog_14_method_71_code 1 = .ok (.iconst 0, 1) := by decide +kernel
theorem d_M_errs_2 : decode prog_14_method_71_code 2 = .ok (.putfield 132, 3) := by decide +kernel
theorem d_M_errs_5 : decode prog_14_method_71_code 5 = .ok (.iload_n 1, 1) := by decide +kernel
theorem d_M_errs_6 : decode prog_14_method_71_code 6 = .ok (.ifCond .lt 8, 3) := by decide +kernel
theorem d_M_errs_14 : decode prog_14_method_71_code 14 = .ok (.iconst (-1), 1) := by decide +kernel
theorem d_M_errs_15 : decode prog_14_method_71_code 15 = .ok (.ireturn, 1) := by decide +kernel
theorem d_M_errs_9 : decode prog_14_method_71_code 9 = .ok (.iload_n 1, 1) := by decide +kernel
theorem d_M_errs_10 : decode prog_14_method_71_code 10 = .ok (.iconst 3, 1) := by decide +kernel
theorem d_M_errs_11 : decode prog_14_method_71_code 11 = .ok (.if_icmp .le 5, 3) := by decide +kernel
theorem d_M_errs_16 : decode prog_14_method_71_code 16 = .ok (.aload_n 0, 1) := by decide +kernel
theorem d_M_errs_17 : decode prog_14_method_71_code 17 = .ok (.iload_n 1, 1) := by decide +kernel
theorem d_M_errs_18 : decode prog_14_method_71_code 18 = .ok (.invokevirtual 377, 3) := by decide +kernel
theorem d_M_errs_21 : decode prog_14_method_71_code 21 = .ok (.iconst 0, 1) := by decide +kernel
theorem d_M_errs_22 : decode prog_14_method_71_code 22 = .ok (.istore_n 2, 1) := by decide +kernel
theorem d_M_errs_23 : decode prog_14_method_71_code 23 = .ok (.iconst 0, 1) := by decide +kernel
theorem d_M_errs_24 : decode prog_14_method_71_code 24 = .ok (.istore_n 3, 1) := by decide +kernel
theorem d_M_errs_25 : decode prog_14_method_71_code 25 = .ok (.iload_n 3, 1) := by decide +kernel
theorem d_M_errs_26 : decode prog_14_method_71_code 26 = .ok (.aload_n 0, 1) := by decide +kernel
theorem d_M_errs_27 : decode prog_14_method_71_code 27 = .ok (.getfield 277, 3) := by decide +kernel
theorem d_M_errs_30 : decode prog_14_method_71_code 30 = .ok (.if_icmp .ge 59, 3) := by decide +kernel
theorem d_M_errs_33 : decode prog_14_method_71_code 33 = .ok (.iconst 0, 1) := by decide +kernel
theorem d_M_errs_34 : decode prog_14_method_71_code 34 = .ok (.istore 4, 2) := by decide +kernel
theorem d_M_errs_36 : decode prog_14_method_71_code 36 = .ok (.iload 4, 2) := by decide +kernel
theorem d_M_errs_38 : decode prog_14_method_71_code 38 = .ok (.aload_n 0, 1) := by decide +kernel
theorem d_M_errs_39 : decode prog_14_method_71_code 39 = .ok (.getfield 277, 3) := by decide +kernel
theorem d_M_errs_42 : decode prog_14_method_71_code 42 = .ok (.if_icmp .ge 41, 3) := by decide +kernel
theorem d_M_errs_45 : decode prog_14_method_71_code 45 = .ok (.iload_n 2, 1) := by decide +kernel
theorem d_M_errs_46 : decode prog_14_method_71_code 46 = .ok (.iload_n 3, 1) := by decide +kernel
theorem d_M_errs_47 : decode prog_14_method_71_code 47 = .ok (.iload 4, 2) := by decide +kernel
theorem d_M_errs_49 : decode prog_14_method_71_code 49 = .ok (.if_icmp .eq 25, 3) := by decide +kernel
theorem d_M_errs_74 : decode prog_14_method_71_code 74 = .ok (.iconst 0, 1) := by decide +kernel
theorem d_M_errs_75 : decode prog_14_method_71_code 75 = .ok (.iadd, 1) := by decide +kernel
theorem d_M_errs_76 : decode prog_14_method_71_code 76 = .ok (.istore_n 2, 1) := by decide +kernel
theorem d_M_errs_77 : decode prog_14_method_71_code 77 = .ok (.iinc 4 1, 3) := by decide +kernel
theorem d_M_errs_80 : decode prog_14_method_71_code 80 = .ok (.goto (-44), 3) := by decide +kernel
theorem d_M_errs_52 : decode prog_14_method_71_code 52 = .ok (.aload_n 0, 1) := by decide +kernel
theorem d_M_errs_53 : decode prog_14_method_71_code 53 = .ok (.iload_n 3, 1) := by decide +kernel
theorem d_M_errs_54 : decode prog_14_method_71_code 54 = .ok (.iload 4, 2) := by decide +kernel
theorem d_M_errs_56 : decode prog_14_method_71_code 56 = .ok (.iload_n 1, 1) := by decide +kernel
theorem d_M_errs_57 : decode prog_14_method_71_code 57 = .ok (.invokevirtual 380, 3) := by decide +kernel
theorem d_M_errs_60 : decode prog_14_method_71_code 60 = .ok (.aload_n 0, 1) := by decide +kernel
theorem d_M_errs_61 : decode prog_14_method_71_code 61 = .ok (.iload_n 3, 1) := by decide +kernel
theorem d_M_errs_62 : decode prog_14_method_71_code 62 = .ok (.iload 4, 2) := by decide +kernel
theorem d_M_errs_64 : decode prog_14_method_71_code 64 = .ok (.invokevirtual 350, 3) := by decide +kernel
theorem d_M_errs_67 : decode prog_14_method_71_code 67 = .ok (.if_icmp .eq 7, 3) := by decide +kernel
theorem d_M_errs_70 : decode prog_14_method_71_code 70 = .ok (.iconst 1, 1) := by decide +kernel
theorem d_M_errs_71 : decode prog_14_method_71_code 71 = .ok (.goto 4, 3) := by decide +kernel
theorem d_M_errs_83 : decode prog_14_method_71_code 83 = .ok (.iinc 3 1, 3) := by decide +kernel
theorem d_M_errs_86 : decode prog_14_method_71_code 86 = .ok (.goto (-61), 3) := by decide +kernel
theorem d_M_errs_89 : decode prog_14_method_71_code 89 = .ok (.iload_n 2, 1) := by decide +kernel
theorem d_M_errs_90 : decode prog_14_method_71_code 90 = .ok (.ireturn, 1) := by decide +kernel
theorem d_M_isSet_0 : decode prog_14_method_72_code 0 = .ok (.iload_n 1, 1) := by decide +kernel
theorem d_M_isSet_1 : decode prog_14_method_72_code 1 = .ok (.ifCond .lt 17, 3) := by decide +kernel
theorem d_M_isSet_18 : decode prog_14_method_72_code 18 = .ok (.iconst 0, 1) := by decide +kernel
theorem d_M_isSet_19 : decode prog_14_method_72_code 19 = .ok (.ireturn, 1) := by decide +kernel
theorem d_M_isSet_4 : decode prog_14_method_72_code 4 = .ok (.iload_n 1, 1) := by decide +kernel
theorem d_M_isSet_5 : decode prog_14_method_72_code 5 = .ok (.iconst 1, 1) := by decide +kernel
theorem d_M_isSet_6 : decode prog_14_method_72_code 6 = .ok (.aload_n 0, 1) := by decide +kernel
theorem d_M_isSet_7 : decode prog_14_method_72_code 7 = .ok (.getfield 277, 3) := by decide +kernel
theorem d_M_isSet_10 : decode prog_14_method_72_code 10 = .ok (.ishl, 1) := by decide +kernel
theorem d_M_isSet_11 : decode prog_14_method_72_code 11 = .ok (.if_icmp .ge 7, 3) := by decide +kernel
theorem d_M_isSet_14 : decode prog_14_method_72_code 14 = .ok (.iconst 1, 1) := by decide +kernel
theorem d_M_isSet_15 : decode prog_14_method_72_code 15 = .ok (.goto 4, 3) := by decide +kernel
theorem d_M_joins_0 : decode prog_14_method_74_code 0 = .ok (.iload_n 1, 1) := by decide +kernel
theorem d_M_joins_1 : decode prog_14_method_74_code 1 = .ok (.iconst 1, 1) := by decide +kernel
theorem d_M_joins_2 : decode prog_14_method_74_code 2 = .ok (.iadd, 1) := by decide +kernel
theorem d_M_joins_3 : decode prog_14_method_74_code 3 = .ok (.istore_n 3, 1) := by decide +kernel
theorem d_M_joins_4 : decode prog_14_method_74_code 4 = .ok (.iload_n 3, 1) := by decide +kernel
theorem d_M_joins_5 : decode prog_14_method_74_code 5 = .ok (.aload_n 0, 1) := by decide +kernel
theorem d_M_joins_6 : decode prog_14_method_74_code 6 = .ok (.getfield 277, 3) := by decide +kernel
theorem d_M_joins_9 : decode prog_14_method_74_code 9 = .ok (.if_icmp .ge 89, 3) := by decide +kernel
theorem d_M_joins_12 : decode prog_14_method_74_code 12 = .ok (.iload_n 2, 1) := by decide +kernel
theorem d_M_joins_13 : decode prog_14_method_74_code 13 = .ok (.iload_n 3, 1) := by decide +kernel
theorem d_M_joins_14 : decode prog_14_method_74_code 14 = .ok (.ishr, 1) := by decide +kernel
theorem d_M_joins_15 : decode prog_14_method_74_code 15 = .ok (.iconst 1, 1) := by decide +kernel
theorem d_M_joins_16 : decode prog_14_method_74_code 16 = .ok (.iand, 1) := by decide +kernel
theorem d_M_joins_17 : decode prog_14_method_74_code 17 = .ok (.ifCond .eq 75, 3) := by decide +kernel
theorem d_M_joins_92 : decode prog_14_method_74_code 92 = .ok (.iinc 3 1, 3) := by decide +kernel
theorem d_M_joins_95 : decode prog_14_method_74_code 95 = .ok (.goto (-91), 3) := by decide +kernel
theorem d_M_joins_20 : decode prog_14_method_74_code 20 = .ok (.aload_n 0, 1) := by decide +kernel
theorem d_M_joins_21 : decode prog_14_method_74_code 21 = .ok (.iload_n 1, 1) := by decide +kernel
theorem d_M_joins_22 : decode prog_14_method_74_code 22 = .ok (.iload_n 3, 1) := by decide +kernel
theorem d_M_joins_23 : decode prog_14_method_74_code 23 = .ok (.invokevirtual 350, 3) := by decide +kernel
theorem d_M_joins_26 : decode prog_14_method_74_code 26 = .ok (.ifCond .eq 66, 3) := by decide +kernel
theorem d_M_joins_29 : decode prog_14_method_74_code 29 = .ok (.aload_n 0, 1) := by decide +kernel
theorem d_M_joins_30 : decode prog_14_method_74_code 30 = .ok (.getfield 387, 3) := by decide +kernel
theorem d_M_joins_33 : decode prog_14_method_74_code 33 = .ok (.iload_n 3, 1) := by decide +kernel
theorem d_M_joins_34 : decode prog_14_method_74_code 34 = .ok (.ishr, 1) := by decide +kernel
theorem d_M_joins_35 : decode prog_14_method_74_code 35 = .ok (.iconst 1, 1) := by decide +kernel
theorem d_M_joins_36 : decode prog_14_method_74_code 36 = .ok (.iand, 1) := by decide +kernel
theorem d_M_joins_37 : decode prog_14_method_74_code 37 = .ok (.iconst 1, 1) := by decide +kernel
theorem d_M_joins_38 : decode prog_14_method_74_code 38 = .ok (.if_icmp .ne 6, 3) := by decide +kernel
theorem d_M_joins_44 : decode prog_14_method_74_code 44 = .ok (.aload_n 0, 1) := by decide +kernel
theorem d_M_joins_45 : decode prog_14_method_74_code 45 = .ok (.dup, 1) := by decide +kernel
theorem d_M_joins_46 : decode prog_14_method_74_code 46 = .ok (.getfield 387, 3) := by decide +kernel
theorem d_M_joins_49 : decode prog_14_method_74_code 49 = .ok (.iconst 1, 1) := by decide +kernel
theorem d_M_joins_50 : decode prog_14_method_74_code 50 = .ok (.iload_n 3, 1) := by decide +kernel
theorem d_M_joins_51 : decode prog_14_method_74_code 51 = .ok (.ishl, 1) := by decide +kernel
theorem d_M_joins_52 : decode prog_14_method_74_code 52 = .ok (.ior, 1) := by decide +kernel
theorem d_M_joins_53 : decode prog_14_method_74_code 53 = .ok (.putfield 387, 3) := by decide +kernel
theorem d_M_joins_56 : decode prog_14_method_74_code 56 = .ok (.aload_n 0, 1) := by decide +kernel
theorem d_M_joins_57 : decode prog_14_method_74_code 57 = .ok (.getfield 111, 3) := by decide +kernel
theorem d_M_joins_60 : decode prog_14_method_74_code 60 = .ok (.iload_n 3, 1) := by decide +kernel
theorem d_M_joins_61 : decode prog_14_method_74_code 61 = .ok (.iaload, 1) := by decide +kernel
theorem d_M_joins_62 : decode prog_14_method_74_code 62 = .ok (.iconst (-1), 1) := by decide +kernel
theorem d_M_joins_63 : decode prog_14_method_74_code 63 = .ok (.if_icmp .eq 20, 3) := by decide +kernel
theorem d_M_joins_66 : decode prog_14_method_74_code 66 = .ok (.aload_n 0, 1) := by decide +kernel
theorem d_M_joins_67 : decode prog_14_method_74_code 67 = .ok (.aload_n 0, 1) := by decide +kernel
theorem d_M_joins_68 : decode prog_14_method_74_code 68 = .ok (.getfield 111, 3) := by decide +kernel
theorem d_M_joins_71 : decode prog_14_method_74_code 71 = .ok (.iload_n 3, 1) := by decide +kernel
theorem d_M_joins_72 : decode prog_14_method_74_code 72 = .ok (.iaload, 1) := by decide +kernel
theorem d_M_joins_73 : decode prog_14_method_74_code 73 = .ok (.iload_n 2, 1) := by decide +kernel
theorem d_M_joins_74 : decode prog_14_method_74_code 74 = .ok (.invokevirtual 390, 3) := by decide +kernel
theorem d_M_joins_77 : decode prog_14_method_74_code 77 = .ok (.ifCond .ne 6, 3) := by decide +kernel
theorem d_M_joins_80 : decode prog_14_method_74_code 80 = .ok (.goto 12, 3) := by decide +kernel
theorem d_M_joins_41 : decode prog_14_method_74_code 41 = .ok (.goto 51, 3) := by decide +kernel
theorem d_M_joins_83 : decode prog_14_method_74_code 83 = .ok (.aload_n 0, 1) := by decide +kernel
theorem d_M_joins_84 : decode prog_14_method_74_code 84 = .ok (.getfield 111, 3) := by decide +kernel
theorem d_M_joins_87 : decode prog_14_method_74_code 87 = .ok (.iload_n 3, 1) := by decide +kernel
theorem d_M_joins_88 : decode prog_14_method_74_code 88 = .ok (.iload_n 1, 1) := by decide +kernel
theorem d_M_joins_89 : decode prog_14_method_74_code 89 = .ok (.iastore, 1) := by decide +kernel
theorem d_M_joins_90 : decode prog_14_method_74_code 90 = .ok (.iconst 1, 1) := by decide +kernel
theorem d_M_joins_91 : decode prog_14_method_74_code 91 = .ok (.ireturn, 1) := by decide +kernel
theorem d_M_joins_98 : decode prog_14_method_74_code 98 = .ok (.iconst 0, 1) := by decide +kernel
theorem d_M_joins_99 : decode prog_14_method_74_code 99 = .ok (.ireturn, 1) := by decide +kernel
theorem d_M_chains_0 : decode prog_14_method_73_code 0 = .ok (.aload_n 0, 1) := by decide +kernel
theorem d_M_chains_1 : decode prog_14_method_73_code 1 = .ok (.iconst 0, 1) := by decide +kernel
theorem d_M_chains_2 : decode prog_14_method_73_code 2 = .ok (.putfield 132, 3) := by decide +kernel
theorem d_M_chains_5 : decode prog_14_method_73_code 5 = .ok (.aload_n 0, 1) := by decide +kernel
theorem d_M_chains_6 : decode prog_14_method_73_code 6 = .ok (.iload_n 1, 1) := by decide +kernel
theorem d_M_chains_7 : decode prog_14_method_73_code 7 = .ok (.invokevirtual 384, 3) := by decide +kernel
theorem d_M_chains_10 : decode prog_14_method_73_code 10 = .ok (.ifCond .ne 5, 3) := by decide +kernel
theorem d_M_chains_15 : decode prog_14_method_73_code 15 = .ok (.iconst 0, 1) := by decide +kernel
theorem d_M_chains_16 : decode prog_14_method_73_code 16 = .ok (.istore_n 2, 1) := by decide +kernel
theorem d_M_chains_17 : decode prog_14_method_73_code 17 = .ok (.iload_n 2, 1) := by decide +kernel
theorem d_M_chains_18 : decode prog_14_method_73_code 18 = .ok (.aload_n 0, 1) := by decide +kernel
theorem d_M_chains_19 : decode prog_14_method_73_code 19 = .ok (.getfield 277, 3) := by decide +kernel
theorem d_M_chains_22 : decode prog_14_method_73_code 22 = .ok (.if_icmp .ge 16, 3) := by decide +kernel
theorem d_M_chains_25 : decode prog_14_method_73_code 25 = .ok (.aload_n 0, 1) := by decide +kernel
theorem d_M_chains_26 : decode prog_14_method_73_code 26 = .ok (.getfield 111, 3) := by decide +kernel
theorem d_M_chains_29 : decode prog_14_method_73_code 29 = .ok (.iload_n 2, 1) := by decide +kernel
theorem d_M_chains_30 : decode prog_14_method_73_code 30 = .ok (.iconst (-1), 1) := by decide +kernel
theorem d_M_chains_31 : decode prog_14_method_73_code 31 = .ok (.iastore, 1) := by decide +kernel
theorem d_M_chains_32 : decode prog_14_method_73_code 32 = .ok (.iinc 2 1, 3) := by decide +kernel
theorem d_M_chains_35 : decode prog_14_method_73_code 35 = .ok (.goto (-18), 3) := by decide +kernel
theorem d_M_chains_38 : decode prog_14_method_73_code 38 = .ok (.iload_n 1, 1) := by decide +kernel
theorem d_M_chains_39 : decode prog_14_method_73_code 39 = .ok (.invokestatic 306, 3) := by decide +kernel
theorem d_M_chains_42 : decode prog_14_method_73_code 42 = .ok (.istore_n 2, 1) := by decide +kernel
theorem d_M_chains_43 : decode prog_14_method_73_code 43 = .ok (.iconst 0, 1) := by decide +kernel
theorem d_M_chains_44 : decode prog_14_method_73_code 44 = .ok (.istore_n 3, 1) := by decide +kernel
theorem d_M_chains_45 : decode prog_14_method_73_code 45 = .ok (.iload_n 3, 1) := by decide +kernel
theorem d_M_chains_46 : decode prog_14_method_73_code 46 = .ok (.aload_n 0, 1) := by decide +kernel
theorem d_M_chains_47 : decode prog_14_method_73_code 47 = .ok (.getfield 277, 3) := by decide +kernel
theorem d_M_chains_50 : decode prog_14_method_73_code 50 = .ok (.if_icmp .ge 35, 3) := by decide +kernel
theorem d_M_chains_53 : decode prog_14_method_73_code 53 = .ok (.aload_n 0, 1) := by decide +kernel
theorem d_M_chains_54 : decode prog_14_method_73_code 54 = .ok (.iconst 0, 1) := by decide +kernel
theorem d_M_chains_55 : decode prog_14_method_73_code 55 = .ok (.putfield 387, 3) := by decide +kernel
theorem d_M_chains_58 : decode prog_14_method_73_code 58 = .ok (.iload_n 1, 1) := by decide +kernel
theorem d_M_chains_59 : decode prog_14_method_73_code 59 = .ok (.iload_n 3, 1) := by decide +kernel
theorem d_M_chains_60 : decode prog_14_method_73_code 60 = .ok (.ishr, 1) := by decide +kernel
theorem d_M_chains_61 : decode prog_14_method_73_code 61 = .ok (.iconst 1, 1) := by decide +kernel
theorem d_M_chains_62 : decode prog_14_method_73_code 62 = .ok (.iand, 1) := by decide +kernel
theorem d_M_chains_63 : decode prog_14_method_73_code 63 = .ok (.iconst 1, 1) := by decide +kernel
theorem d_M_chains_64 : decode prog_14_method_73_code 64 = .ok (.if_icmp .ne 15, 3) := by decide +kernel
theorem d_M_chains_79 : decode prog_14_method_73_code 79 = .ok (.iinc 3 1, 3) := by decide +kernel
theorem d_M_chains_82 : decode prog_14_method_73_code 82 = .ok (.goto (-37), 3) := by decide +kernel
theorem d_M_chains_67 : decode prog_14_method_73_code 67 = .ok (.aload_n 0, 1) := by decide +kernel
theorem d_M_chains_68 : decode prog_14_method_73_code 68 = .ok (.iload_n 3, 1) := by decide +kernel
theorem d_M_chains_69 : decode prog_14_method_73_code 69 = .ok (.iload_n 1, 1) := by decide +kernel
theorem d_M_chains_70 : decode prog_14_method_73_code 70 = .ok (.invokevirtual 390, 3) := by decide +kernel
theorem d_M_chains_73 : decode prog_14_method_73_code 73 = .ok (.ifCond .eq 6, 3) := by decide +kernel
theorem d_M_chains_76 : decode prog_14_method_73_code 76 = .ok (.iinc 2 (-1), 3) := by decide +kernel
theorem d_M_chains_85 : decode prog_14_method_73_code 85 = .ok (.iload_n 2, 1) := by decide +kernel
theorem d_M_chains_86 : decode prog_14_method_73_code 86 = .ok (.ireturn, 1) := by decide +kernel
theorem d_M_chains_13 : decode prog_14_method_73_code 13 = .ok (.iconst (-1), 1) := by decide +kernel
theorem d_M_chains_14 : decode prog_14_method_73_code 14 = .ok (.ireturn, 1) := by decide +kernel
theorem d_M_waits_0 : decode prog_14_method_75_code 0 = .ok (.aload_n 0, 1) := by decide +kernel
theorem d_M_waits_1 : decode prog_14_method_75_code 1 = .ok (.iconst 0, 1) := by decide +kernel
theorem d_M_waits_2 : decode prog_14_method_75_code 2 = .ok (.putfield 132, 3) := by decide +kernel
theorem d_M_waits_5 : decode prog_14_method_75_code 5 = .ok (.iload_n 1, 1) := by decide +kernel
theorem d_M_waits_6 : decode prog_14_method_75_code 6 = .ok (.invokestatic 280, 3) := by decide +kernel
theorem d_M_waits_9 : decode prog_14_method_75_code 9 = .ok (.ifCond .eq 13, 3) := by decide +kernel
theorem d_M_waits_22 : decode prog_14_method_75_code 22 = .ok (.iconst (-1), 1) := by decide +kernel
theorem d_M_waits_23 : decode prog_14_method_75_code 23 = .ok (.goto 9, 3) := by decide +kernel
theorem d_M_waits_32 : decode prog_14_method_75_code 32 = .ok (.ireturn, 1) := by decide +kernel
theorem d_M_waits_12 : decode prog_14_method_75_code 12 = .ok (.aload_n 0, 1) := by decide +kernel
theorem d_M_waits_13 : decode prog_14_method_75_code 13 = .ok (.iload_n 1, 1) := by decide +kernel
theorem d_M_waits_14 : decode prog_14_method_75_code 14 = .ok (.iload_n 2, 1) := by decide +kernel
theorem d_M_waits_15 : decode prog_14_method_75_code 15 = .ok (.invokevirtual 326, 3) := by decide +kernel
theorem d_M_waits_18 : decode prog_14_method_75_code 18 = .ok (.iconst (-1), 1) := by decide +kernel
theorem d_M_waits_19 : decode prog_14_method_75_code 19 = .ok (.if_icmp .ne 7, 3) := by decide +kernel
theorem d_M_waits_26 : decode prog_14_method_75_code 26 = .ok (.aload_n 0, 1) := by decide +kernel
theorem d_M_waits_27 : decode prog_14_method_75_code 27 = .ok (.iload_n 1, 1) := by decide +kernel
theorem d_M_waits_28 : decode prog_14_method_75_code 28 = .ok (.iload_n 2, 1) := by decide +kernel
theorem d_M_waits_29 : decode prog_14_method_75_code 29 = .ok (.invokevirtual 341, 3) := by decide +kernel
theorem d_M_isComing_0 : decode prog_14_method_76_code 0 = .ok (.iconst 0, 1) := by decide +kernel
theorem d_M_isComing_1 : decode prog_14_method_76_code 1 = .ok (.istore_n 3, 1) := by decide +kernel
theorem d_M_isComing_2 : decode prog_14_method_76_code 2 = .ok (.iload_n 3, 1) := by decide +kernel
theorem d_M_isComing_3 : decode prog_14_method_76_code 3 = .ok (.aload_n 0, 1) := by decide +kernel
theorem d_M_isComing_4 : decode prog_14_method_76_code 4 = .ok (.getfield 292, 3) := by decide +kernel
theorem d_M_isComing_7 : decode prog_14_method_76_code 7 = .ok (.if_icmp .ge 40, 3) := by decide +kernel
theorem d_M_isComing_10 : decode prog_14_method_76_code 10 = .ok (.aload_n 0, 1) := by decide +kernel
theorem d_M_isComing_11 : decode prog_14_method_76_code 11 = .ok (.getfield 87, 3) := by decide +kernel
theorem d_M_isComing_14 : decode prog_14_method_76_code 14 = .ok (.iload_n 3, 1) := by decide +kernel
theorem d_M_isComing_15 : decode prog_14_method_76_code 15 = .ok (.iaload, 1) := by decide +kernel
theorem d_M_isComing_16 : decode prog_14_method_76_code 16 = .ok (.ifCond .ne 25, 3) := by decide +kernel
theorem d_M_isComing_41 : decode prog_14_method_76_code 41 = .ok (.iinc 3 1, 3) := by decide +kernel
theorem d_M_isComing_44 : decode prog_14_method_76_code 44 = .ok (.goto (-42), 3) := by decide +kernel
theorem d_M_isComing_19 : decode prog_14_method_76_code 19 = .ok (.aload_n 0, 1) := by decide +kernel
theorem d_M_isComing_20 : decode prog_14_method_76_code 20 = .ok (.getfield 81, 3) := by decide +kernel
theorem d_M_isComing_23 : decode prog_14_method_76_code 23 = .ok (.iload_n 3, 1) := by decide +kernel
theorem d_M_isComing_24 : decode prog_14_method_76_code 24 = .ok (.iaload, 1) := by decide +kernel
theorem d_M_isComing_25 : decode prog_14_method_76_code 25 = .ok (.iload_n 1, 1) := by decide +kernel
theorem d_M_isComing_26 : decode prog_14_method_76_code 26 = .ok (.if_icmp .ne 15, 3) := by decide +kernel
theorem d_M_isComing_29 : decode prog_14_method_76_code 29 = .ok (.aload_n 0, 1) := by decide +kernel
theorem d_M_isComing_30 : decode prog_14_method_76_code 30 = .ok (.getfield 75, 3) := by decide +kernel
theorem d_M_isComing_33 : decode prog_14_method_76_code 33 = .ok (.iload_n 3, 1) := by decide +kernel
theorem d_M_isComing_34 : decode prog_14_method_76_code 34 = .ok (.iaload, 1) := by decide +kernel
theorem d_M_isComing_35 : decode prog_14_method_76_code 35 = .ok (.iload_n 2, 1) := by decide +kernel
theorem d_M_isComing_36 : decode prog_14_method_76_code 36 = .ok (.if_icmp .ne 5, 3) := by decide +kernel
theorem d_M_isComing_39 : decode prog_14_method_76_code 39 = .ok (.iconst 1, 1) := by decide +kernel
theorem d_M_isComing_40 : decode prog_14_method_76_code 40 = .ok (.ireturn, 1) := by decide +kernel
theorem d_M_isComing_47 : decode prog_14_method_76_code 47 = .ok (.iconst 0, 1) := by decide +kernel
theorem d_M_isComing_48 : decode prog_14_method_76_code 48 = .ok (.ireturn, 1) := by decide +kernel
theorem d_M_ever_0 : decode prog_14_method_77_code 0 = .ok (.aload_n 0, 1) := by decide +kernel
theorem d_M_ever_1 : decode prog_14_method_77_code 1 = .ok (.iconst 0, 1) := by decide +kernel
theorem d_M_ever_2 : decode prog_14_method_77_code 2 = .ok (.putfield 132, 3) := by decide +kernel
theorem d_M_ever_5 : decode prog_14_method_77_code 5 = .ok (.iload_n 1, 1) := by decide +kernel
theorem d_M_ever_6 : decode prog_14_method_77_code 6 = .ok (.invokestatic 280, 3) := by decide +kernel
theorem d_M_ever_9 : decode prog_14_method_77_code 9 = .ok (.ifCond .ne 5, 3) := by decide +kernel
theorem d_M_ever_14 : decode prog_14_method_77_code 14 = .ok (.iconst 0, 1) := by decide +kernel
theorem d_M_ever_15 : decode prog_14_method_77_code 15 = .ok (.istore_n 2, 1) := by decide +kernel
theorem d_M_ever_16 : decode prog_14_method_77_code 16 = .ok (.iconst 0, 1) := by decide +kernel
theorem d_M_ever_17 : decode prog_14_method_77_code 17 = .ok (.istore_n 3, 1) := by decide +kernel
theorem d_M_ever_18 : decode prog_14_method_77_code 18 = .ok (.iload_n 3, 1) := by decide +kernel
theorem d_M_ever_19 : decode prog_14_method_77_code 19 = .ok (.aload_n 0, 1) := by decide +kernel
theorem d_M_ever_20 : decode prog_14_method_77_code 20 = .ok (.getfield 277, 3) := by decide +kernel
theorem d_M_ever_23 : decode prog_14_method_77_code 23 = .ok (.if_icmp .ge 110, 3) := by decide +kernel
theorem d_M_ever_26 : decode prog_14_method_77_code 26 = .ok (.aload_n 0, 1) := by decide +kernel
theorem d_M_ever_27 : decode prog_14_method_77_code 27 = .ok (.iload_n 1, 1) := by decide +kernel
theorem d_M_ever_28 : decode prog_14_method_77_code 28 = .ok (.iload_n 3, 1) := by decide +kernel
theorem d_M_ever_29 : decode prog_14_method_77_code 29 = .ok (.invokevirtual 326, 3) := by decide +kernel
theorem d_M_ever_32 : decode prog_14_method_77_code 32 = .ok (.iconst (-1), 1) := by decide +kernel
theorem d_M_ever_33 : decode prog_14_method_77_code 33 = .ok (.if_icmp .ne 6, 3) := by decide +kernel
theorem d_M_ever_39 : decode prog_14_method_77_code 39 = .ok (.aload_n 0, 1) := by decide +kernel
theorem d_M_ever_40 : decode prog_14_method_77_code 40 = .ok (.iload_n 1, 1) := by decide +kernel
theorem d_M_ever_41 : decode prog_14_method_77_code 41 = .ok (.iload_n 3, 1) := by decide +kernel
theorem d_M_ever_42 : decode prog_14_method_77_code 42 = .ok (.invokevirtual 341, 3) := by decide +kernel
theorem d_M_ever_45 : decode prog_14_method_77_code 45 = .ok (.istore 4, 2) := by decide +kernel
theorem d_M_ever_47 : decode prog_14_method_77_code 47 = .ok (.iconst 0, 1) := by decide +kernel
theorem d_M_ever_48 : decode prog_14_method_77_code 48 = .ok (.istore 5, 2) := by decide +kernel
theorem d_M_ever_50 : decode prog_14_method_77_code 50 = .ok (.iload 5, 2) := by decide +kernel
theorem d_M_ever_52 : decode prog_14_method_77_code 52 = .ok (.iload_n 3, 1) := by decide +kernel
theorem d_M_ever_53 : decode prog_14_method_77_code 53 = .ok (.if_icmp .ge 74, 3) := by decide +kernel
theorem d_M_ever_56 : decode prog_14_method_77_code 56 = .ok (.iload 4, 2) := by decide +kernel
theorem d_M_ever_58 : decode prog_14_method_77_code 58 = .ok (.iload 5, 2) := by decide +kernel
theorem d_M_ever_60 : decode prog_14_method_77_code 60 = .ok (.ishr, 1) := by decide +kernel
theorem d_M_ever_61 : decode prog_14_method_77_code 61 = .ok (.iconst 1, 1) := by decide +kernel
theorem d_M_ever_62 : decode prog_14_method_77_code 62 = .ok (.iand, 1) := by decide +kernel
theorem d_M_ever_63 : decode prog_14_method_77_code 63 = .ok (.ifCond .ne 6, 3) := by decide +kernel
theorem d_M_ever_69 : decode prog_14_method_77_code 69 = .ok (.aload_n 0, 1) := by decide +kernel
theorem d_M_ever_70 : decode prog_14_method_77_code 70 = .ok (.iload_n 1, 1) := by decide +kernel
theorem d_M_ever_71 : decode prog_14_method_77_code 71 = .ok (.iload 5, 2) := by decide +kernel
theorem d_M_ever_73 : decode prog_14_method_77_code 73 = .ok (.invokevirtual 326, 3) := by decide +kernel
theorem d_M_ever_76 : decode prog_14_method_77_code 76 = .ok (.iconst (-1), 1) := by decide +kernel
theorem d_M_ever_77 : decode prog_14_method_77_code 77 = .ok (.if_icmp .eq 7, 3) := by decide +kernel
theorem d_M_ever_84 : decode prog_14_method_77_code 84 = .ok (.iconst 0, 1) := by decide +kernel
theorem d_M_ever_85 : decode prog_14_method_77_code 85 = .ok (.istore 6, 2) := by decide +kernel
theorem d_M_ever_87 : decode prog_14_method_77_code 87 = .ok (.iload 6, 2) := by decide +kernel
theorem d_M_ever_89 : decode prog_14_method_77_code 89 = .ok (.ifCond .eq 16, 3) := by decide +kernel
theorem d_M_ever_105 : decode prog_14_method_77_code 105 = .ok (.aload_n 0, 1) := by decide +kernel
theorem d_M_ever_106 : decode prog_14_method_77_code 106 = .ok (.iload_n 1, 1) := by decide +kernel
theorem d_M_ever_107 : decode prog_14_method_77_code 107 = .ok (.iload 5, 2) := by decide +kernel
theorem d_M_ever_109 : decode prog_14_method_77_code 109 = .ok (.invokevirtual 393, 3) := by decide +kernel
theorem d_M_ever_112 : decode prog_14_method_77_code 112 = .ok (.ifCond .ne 9, 3) := by decide +kernel
theorem d_M_ever_121 : decode prog_14_method_77_code 121 = .ok (.iinc 5 1, 3) := by decide +kernel
theorem d_M_ever_124 : decode prog_14_method_77_code 124 = .ok (.goto (-74), 3) := by decide +kernel
theorem d_M_ever_115 : decode prog_14_method_77_code 115 = .ok (.iload_n 2, 1) := by decide +kernel
theorem d_M_ever_116 : decode prog_14_method_77_code 116 = .ok (.iconst 1, 1) := by decide +kernel
theorem d_M_ever_117 : decode prog_14_method_77_code 117 = .ok (.iload_n 3, 1) := by decide +kernel
theorem d_M_ever_118 : decode prog_14_method_77_code 118 = .ok (.ishl, 1) := by decide +kernel
theorem d_M_ever_119 : decode prog_14_method_77_code 119 = .ok (.ior, 1) := by decide +kernel
theorem d_M_ever_120 : decode prog_14_method_77_code 120 = .ok (.istore_n 2, 1) := by decide +kernel
theorem d_M_ever_92 : decode prog_14_method_77_code 92 = .ok (.iload_n 2, 1) := by decide +kernel
theorem d_M_ever_93 : decode prog_14_method_77_code 93 = .ok (.iload 5, 2) := by decide +kernel
theorem d_M_ever_95 : decode prog_14_method_77_code 95 = .ok (.ishr, 1) := by decide +kernel
theorem d_M_ever_96 : decode prog_14_method_77_code 96 = .ok (.iconst 1, 1) := by decide +kernel
theorem d_M_ever_97 : decode prog_14_method_77_code 97 = .ok (.iand, 1) := by decide +kernel
theorem d_M_ever_98 : decode prog_14_method_77_code 98 = .ok (.iconst 1, 1) := by decide +kernel
theorem d_M_ever_99 : decode prog_14_method_77_code 99 = .ok (.if_icmp .ne 22, 3) := by decide +kernel
theorem d_M_ever_102 : decode prog_14_method_77_code 102 = .ok (.goto 13, 3) := by decide +kernel
theorem d_M_ever_80 : decode prog_14_method_77_code 80 = .ok (.iconst 1, 1) := by decide +kernel
theorem d_M_ever_81 : decode prog_14_method_77_code 81 = .ok (.goto 4, 3) := by decide +kernel
theorem d_M_ever_66 : decode prog_14_method_77_code 66 = .ok (.goto 55, 3) := by decide +kernel
theorem d_M_ever_127 : decode prog_14_method_77_code 127 = .ok (.iinc 3 1, 3) := by decide +kernel
theorem d_M_ever_130 : decode prog_14_method_77_code 130 = .ok (.goto (-112), 3) := by decide +kernel
theorem d_M_ever_36 : decode prog_14_method_77_code 36 = .ok (.goto 91, 3) := by decide +kernel
theorem d_M_ever_133 : decode prog_14_method_77_code 133 = .ok (.iload_n 2, 1) := by decide +kernel
theorem d_M_ever_134 : decode prog_14_method_77_code 134 = .ok (.ireturn, 1) := by decide +kernel
theorem d_M_ever_12 : decode prog_14_method_77_code 12 = .ok (.iconst (-1), 1) := by decide +kernel
theorem d_M_ever_13 : decode prog_14_method_77_code 13 = .ok (.ireturn, 1) := by decide +kernel
theorem d_M_has_0 : decode prog_14_method_78_code 0 = .ok (.aload_n 0, 1) := by decide +kernel
theorem d_M_has_1 : decode prog_14_method_78_code 1 = .ok (.iconst 0, 1) := by decide +kernel
theorem d_M_has_2 : decode prog_14_method_78_code 2 = .ok (.putfield 132, 3) := by decide +kernel
theorem d_M_has_5 : decode prog_14_method_78_code 5 = .ok (.aload_n 0, 1) := by decide +kernel
theorem d_M_has_6 : decode prog_14_method_78_code 6 = .ok (.iload_n 1, 1) := by decide +kernel
theorem d_M_has_7 : decode prog_14_method_78_code 7 = .ok (.invokevirtual 309, 3) := by decide +kernel
theorem d_M_has_10 : decode prog_14_method_78_code 10 = .ok (.ifCond .ne 5, 3) := by decide +kernel
theorem d_M_has_15 : decode prog_14_method_78_code 15 = .ok (.iconst 0, 1) := by decide +kernel
theorem d_M_has_16 : decode prog_14_method_78_code 16 = .ok (.istore_n 2, 1) := by decide +kernel
theorem d_M_has_17 : decode prog_14_method_78_code 17 = .ok (.iconst 0, 1) := by decide +kernel
theorem d_M_has_18 : decode prog_14_method_78_code 18 = .ok (.istore_n 3, 1) := by decide +kernel
theorem d_M_has_19 : decode prog_14_method_78_code 19 = .ok (.iload_n 3, 1) := by decide +kernel
theorem d_M_has_20 : decode prog_14_method_78_code 20 = .ok (.bipush 6, 2) := by decide +kernel
theorem d_M_has_22 : decode prog_14_method_78_code 22 = .ok (.if_icmp .ge 24, 3) := by decide +kernel
theorem d_M_has_25 : decode prog_14_method_78_code 25 = .ok (.iload_n 2, 1) := by decide +kernel
theorem d_M_has_26 : decode prog_14_method_78_code 26 = .ok (.aload_n 0, 1) := by decide +kernel
theorem d_M_has_27 : decode prog_14_method_78_code 27 = .ok (.getfield 90, 3) := by decide +kernel
theorem d_M_has_30 : decode prog_14_method_78_code 30 = .ok (.iload_n 3, 1) := by decide +kernel
theorem d_M_has_31 : decode prog_14_method_78_code 31 = .ok (.iaload, 1) := by decide +kernel
theorem d_M_has_32 : decode prog_14_method_78_code 32 = .ok (.iload_n 1, 1) := by decide +kernel
theorem d_M_has_33 : decode prog_14_method_78_code 33 = .ok (.ishr, 1) := by decide +kernel
theorem d_M_has_34 : decode prog_14_method_78_code 34 = .ok (.iconst 1, 1) := by decide +kernel
theorem d_M_has_35 : decode prog_14_method_78_code 35 = .ok (.iand, 1) := by decide +kernel
theorem d_M_has_36 : decode prog_14_method_78_code 36 = .ok (.iload_n 3, 1) := by decide +kernel
theorem d_M_has_37 : decode prog_14_method_78_code 37 = .ok (.ishl, 1) := by decide +kernel
theorem d_M_has_38 : decode prog_14_method_78_code 38 = .ok (.ior, 1) := by decide +kernel
theorem d_M_has_39 : decode prog_14_method_78_code 39 = .ok (.istore_n 2, 1) := by decide +kernel
theorem d_M_has_40 : decode prog_14_method_78_code 40 = .ok (.iinc 3 1, 3) := by decide +kernel
theorem d_M_has_43 : decode prog_14_method_78_code 43 = .ok (.goto (-24), 3) := by decide +kernel
theorem d_M_has_46 : decode prog_14_method_78_code 46 = .ok (.iload_n 2, 1) := by decide +kernel
theorem d_M_has_47 : decode prog_14_method_78_code 47 = .ok (.ireturn, 1) := by decide +kernel
theorem d_M_has_13 : decode prog_14_method_78_code 13 = .ok (.iconst (-1), 1) := by decide +kernel
theorem d_M_has_14 : decode prog_14_method_78_code 14 = .ok (.ireturn, 1) := by decide +kernel
theorem d_M_readOn_0 : decode prog_14_method_79_code 0 = .ok (.aload_n 0, 1) := by decide +kernel
theorem d_M_readOn_1 : decode prog_14_method_79_code 1 = .ok (.iconst 0, 1) := by decide +kernel
theorem d_M_readOn_2 : decode prog_14_method_79_code 2 = .ok (.putfield 132, 3) := by decide +kernel
theorem d_M_readOn_5 : decode prog_14_method_79_code 5 = .ok (.iload_n 1, 1) := by decide +kernel
theorem d_M_readOn_6 : decode prog_14_method_79_code 6 = .ok (.invokestatic 280, 3) := by decide +kernel
theorem d_M_readOn_9 : decode prog_14_method_79_code 9 = .ok (.ifCond .eq 25, 3) := by decide +kernel
theorem d_M_readOn_34 : decode prog_14_method_79_code 34 = .ok (.iconst (-1), 1) := by decide +kernel
theorem d_M_readOn_35 : decode prog_14_method_79_code 35 = .ok (.ireturn, 1) := by decide +kernel
theorem d_M_readOn_12 : decode prog_14_method_79_code 12 = .ok (.aload_n 0, 1) := by decide +kernel
theorem d_M_readOn_13 : decode prog_14_method_79_code 13 = .ok (.iload_n 2, 1) := by decide +kernel
theorem d_M_readOn_14 : decode prog_14_method_79_code 14 = .ok (.invokevirtual 309, 3) := by decide +kernel
theorem d_M_readOn_17 : decode prog_14_method_79_code 17 = .ok (.ifCond .eq 17, 3) := by decide +kernel
theorem d_M_readOn_20 : decode prog_14_method_79_code 20 = .ok (.aload_n 0, 1) := by decide +kernel
theorem d_M_readOn_21 : decode prog_14_method_79_code 21 = .ok (.getfield 93, 3) := by decide +kernel
theorem d_M_readOn_24 : decode prog_14_method_79_code 24 = .ok (.bipush 30, 2) := by decide +kernel
theorem d_M_readOn_26 : decode prog_14_method_79_code 26 = .ok (.iload_n 1, 1) := by decide +kernel
theorem d_M_readOn_27 : decode prog_14_method_79_code 27 = .ok (.imul, 1) := by decide +kernel
theorem d_M_readOn_28 : decode prog_14_method_79_code 28 = .ok (.iload_n 2, 1) := by decide +kernel
theorem d_M_readOn_29 : decode prog_14_method_79_code 29 = .ok (.iadd, 1) := by decide +kernel
theorem d_M_readOn_30 : decode prog_14_method_79_code 30 = .ok (.iaload, 1) := by decide +kernel
theorem d_M_readOn_31 : decode prog_14_method_79_code 31 = .ok (.goto 4, 3) := by decide +kernel
theorem d_M_spread_0 : decode prog_14_method_80_code 0 = .ok (.aload_n 0, 1) := by decide +kernel
theorem d_M_spread_1 : decode prog_14_method_80_code 1 = .ok (.iconst 0, 1) := by decide +kernel
theorem d_M_spread_2 : decode prog_14_method_80_code 2 = .ok (.putfield 132, 3) := by decide +kernel
theorem d_M_spread_5 : decode prog_14_method_80_code 5 = .ok (.aload_n 0, 1) := by decide +kernel
theorem d_M_spread_6 : decode prog_14_method_80_code 6 = .ok (.iload_n 1, 1) := by decide +kernel
theorem d_M_spread_7 : decode prog_14_method_80_code 7 = .ok (.invokevirtual 309, 3) := by decide +kernel
theorem d_M_spread_10 : decode prog_14_method_80_code 10 = .ok (.ifCond .eq 10, 3) := by decide +kernel
theorem d_M_spread_20 : decode prog_14_method_80_code 20 = .ok (.iconst (-1), 1) := by decide +kernel
theorem d_M_spread_21 : decode prog_14_method_80_code 21 = .ok (.ireturn, 1) := by decide +kernel
theorem d_M_spread_13 : decode prog_14_method_80_code 13 = .ok (.iload_n 2, 1) := by decide +kernel
theorem d_M_spread_14 : decode prog_14_method_80_code 14 = .ok (.invokestatic 396, 3) := by decide +kernel
theorem d_M_spread_17 : decode prog_14_method_80_code 17 = .ok (.ifCond .ne 5, 3) := by decide +kernel
theorem d_M_spread_22 : decode prog_14_method_80_code 22 = .ok (.iconst 0, 1) := by decide +kernel
theorem d_M_spread_23 : decode prog_14_method_80_code 23 = .ok (.istore_n 3, 1) := by decide +kernel
theorem d_M_spread_24 : decode prog_14_method_80_code 24 = .ok (.iconst 0, 1) := by decide +kernel
theorem d_M_spread_25 : decode prog_14_method_80_code 25 = .ok (.istore 4, 2) := by decide +kernel
theorem d_M_spread_27 : decode prog_14_method_80_code 27 = .ok (.iload 4, 2) := by decide +kernel
theorem d_M_spread_29 : decode prog_14_method_80_code 29 = .ok (.bipush 6, 2) := by decide +kernel
theorem d_M_spread_31 : decode prog_14_method_80_code 31 = .ok (.if_icmp .ge 42, 3) := by decide +kernel
theorem d_M_spread_34 : decode prog_14_method_80_code 34 = .ok (.aload_n 0, 1) := by decide +kernel
theorem d_M_spread_35 : decode prog_14_method_80_code 35 = .ok (.getfield 93, 3) := by decide +kernel
theorem d_M_spread_38 : decode prog_14_method_80_code 38 = .ok (.bipush 30, 2) := by decide +kernel
theorem d_M_spread_40 : decode prog_14_method_80_code 40 = .ok (.iload 4, 2) := by decide +kernel
theorem d_M_spread_42 : decode prog_14_method_80_code 42 = .ok (.imul, 1) := by decide +kernel
theorem d_M_spread_43 : decode prog_14_method_80_code 43 = .ok (.iload_n 1, 1) := by decide +kernel
theorem d_M_spread_44 : decode prog_14_method_80_code 44 = .ok (.iadd, 1) := by decide +kernel
theorem d_M_spread_45 : decode prog_14_method_80_code 45 = .ok (.iaload, 1) := by decide +kernel
theorem d_M_spread_46 : decode prog_14_method_80_code 46 = .ok (.istore 5, 2) := by decide +kernel
theorem d_M_spread_48 : decode prog_14_method_80_code 48 = .ok (.iload 5, 2) := by decide +kernel
theorem d_M_spread_50 : decode prog_14_method_80_code 50 = .ok (.iconst (-1), 1) := by decide +kernel
theorem d_M_spread_51 : decode prog_14_method_80_code 51 = .ok (.if_icmp .eq 16, 3) := by decide +kernel
theorem d_M_spread_67 : decode prog_14_method_80_code 67 = .ok (.iinc 4 1, 3) := by decide +kernel
theorem d_M_spread_70 : decode prog_14_method_80_code 70 = .ok (.goto (-43), 3) := by decide +kernel
theorem d_M_spread_54 : decode prog_14_method_80_code 54 = .ok (.iload 5, 2) := by decide +kernel
theorem d_M_spread_56 : decode prog_14_method_80_code 56 = .ok (.iload_n 2, 1) := by decide +kernel
theorem d_M_spread_57 : decode prog_14_method_80_code 57 = .ok (.if_icmp .gt 10, 3) := by decide +kernel
theorem d_M_spread_60 : decode prog_14_method_80_code 60 = .ok (.iload_n 3, 1) := by decide +kernel
theorem d_M_spread_61 : decode prog_14_method_80_code 61 = .ok (.iconst 1, 1) := by decide +kernel
theorem d_M_spread_62 : decode prog_14_method_80_code 62 = .ok (.iload 4, 2) := by decide +kernel
theorem d_M_spread_64 : decode prog_14_method_80_code 64 = .ok (.ishl, 1) := by decide +kernel
theorem d_M_spread_65 : decode prog_14_method_80_code 65 = .ok (.ior, 1) := by decide +kernel
theorem d_M_spread_66 : decode prog_14_method_80_code 66 = .ok (.istore_n 3, 1) := by decide +kernel
theorem d_M_spread_73 : decode prog_14_method_80_code 73 = .ok (.iload_n 3, 1) := by decide +kernel
theorem d_M_spread_74 : decode prog_14_method_80_code 74 = .ok (.ireturn, 1) := by decide +kernel
theorem d_M_all_0 : decode prog_14_method_81_code 0 = .ok (.aload_n 0, 1) := by decide +kernel
theorem d_M_all_1 : decode prog_14_method_81_code 1 = .ok (.iconst 0, 1) := by decide +kernel
theorem d_M_all_2 : decode prog_14_method_81_code 2 = .ok (.putfield 132, 3) := by decide +kernel
theorem d_M_all_5 : decode prog_14_method_81_code 5 = .ok (.aload_n 0, 1) := by decide +kernel
theorem d_M_all_6 : decode prog_14_method_81_code 6 = .ok (.iload_n 1, 1) := by decide +kernel
theorem d_M_all_7 : decode prog_14_method_81_code 7 = .ok (.invokevirtual 309, 3) := by decide +kernel
theorem d_M_all_10 : decode prog_14_method_81_code 10 = .ok (.ifCond .ne 5, 3) := by decide +kernel
theorem d_M_all_15 : decode prog_14_method_81_code 15 = .ok (.iconst 0, 1) := by decide +kernel
theorem d_M_all_16 : decode prog_14_method_81_code 16 = .ok (.istore_n 2, 1) := by decide +kernel
theorem d_M_all_17 : decode prog_14_method_81_code 17 = .ok (.iconst 0, 1) := by decide +kernel
theorem d_M_all_18 : decode prog_14_method_81_code 18 = .ok (.istore_n 3, 1) := by decide +kernel
theorem d_M_all_19 : decode prog_14_method_81_code 19 = .ok (.iload_n 3, 1) := by decide +kernel
theorem d_M_all_20 : decode prog_14_method_81_code 20 = .ok (.bipush 6, 2) := by decide +kernel
theorem d_M_all_22 : decode prog_14_method_81_code 22 = .ok (.if_icmp .ge 53, 3) := by decide +kernel
theorem d_M_all_25 : decode prog_14_method_81_code 25 = .ok (.aload_n 0, 1) := by decide +kernel
theorem d_M_all_26 : decode prog_14_method_81_code 26 = .ok (.getfield 57, 3) := by decide +kernel
theorem d_M_all_29 : decode prog_14_method_81_code 29 = .ok (.iload_n 1, 1) := by decide +kernel
theorem d_M_all_30 : decode prog_14_method_81_code 30 = .ok (.iaload, 1) := by decide +kernel
theorem d_M_all_31 : decode prog_14_method_81_code 31 = .ok (.iload_n 3, 1) := by decide +kernel
theorem d_M_all_32 : decode prog_14_method_81_code 32 = .ok (.ishr, 1) := by decide +kernel
theorem d_M_all_33 : decode prog_14_method_81_code 33 = .ok (.iconst 1, 1) := by decide +kernel
theorem d_M_all_34 : decode prog_14_method_81_code 34 = .ok (.iand, 1) := by decide +kernel
theorem d_M_all_35 : decode prog_14_method_81_code 35 = .ok (.ifCond .ne 6, 3) := by decide +kernel
theorem d_M_all_41 : decode prog_14_method_81_code 41 = .ok (.aload_n 0, 1) := by decide +kernel
theorem d_M_all_42 : decode prog_14_method_81_code 42 = .ok (.getfield 93, 3) := by decide +kernel
theorem d_M_all_45 : decode prog_14_method_81_code 45 = .ok (.bipush 30, 2) := by decide +kernel
theorem d_M_all_47 : decode prog_14_method_81_code 47 = .ok (.iload_n 3, 1) := by decide +kernel
theorem d_M_all_48 : decode prog_14_method_81_code 48 = .ok (.imul, 1) := by decide +kernel
theorem d_M_all_49 : decode prog_14_method_81_code 49 = .ok (.iload_n 1, 1) := by decide +kernel
theorem d_M_all_50 : decode prog_14_method_81_code 50 = .ok (.iadd, 1) := by decide +kernel
theorem d_M_all_51 : decode prog_14_method_81_code 51 = .ok (.iaload, 1) := by decide +kernel
theorem d_M_all_52 : decode prog_14_method_81_code 52 = .ok (.istore 4, 2) := by decide +kernel
theorem d_M_all_54 : decode prog_14_method_81_code 54 = .ok (.iload 4, 2) := by decide +kernel
theorem d_M_all_56 : decode prog_14_method_81_code 56 = .ok (.iconst (-1), 1) := by decide +kernel
theorem d_M_all_57 : decode prog_14_method_81_code 57 = .ok (.if_icmp .ne 5, 3) := by decide +kernel
theorem d_M_all_62 : decode prog_14_method_81_code 62 = .ok (.iload_n 2, 1) := by decide +kernel
theorem d_M_all_63 : decode prog_14_method_81_code 63 = .ok (.iload 4, 2) := by decide +kernel
theorem d_M_all_65 : decode prog_14_method_81_code 65 = .ok (.invokestatic 358, 3) := by decide +kernel
theorem d_M_all_68 : decode prog_14_method_81_code 68 = .ok (.istore_n 2, 1) := by decide +kernel
theorem d_M_all_69 : decode prog_14_method_81_code 69 = .ok (.iinc 3 1, 3) := by decide +kernel
theorem d_M_all_72 : decode prog_14_method_81_code 72 = .ok (.goto (-53), 3) := by decide +kernel
theorem d_M_all_38 : decode prog_14_method_81_code 38 = .ok (.goto 31, 3) := by decide +kernel
theorem d_M_all_60 : decode prog_14_method_81_code 60 = .ok (.iconst (-1), 1) := by decide +kernel
theorem d_M_all_61 : decode prog_14_method_81_code 61 = .ok (.ireturn, 1) := by decide +kernel
theorem d_M_all_75 : decode prog_14_method_81_code 75 = .ok (.iload_n 2, 1) := by decide +kernel
theorem d_M_all_76 : decode prog_14_method_81_code 76 = .ok (.ireturn, 1) := by decide +kernel
theorem d_M_all_13 : decode prog_14_method_81_code 13 = .ok (.iconst (-1), 1) := by decide +kernel
theorem d_M_all_14 : decode prog_14_method_81_code 14 = .ok (.ireturn, 1) := by decide +kernel
theorem d_M_burn_0 : decode prog_14_method_82_code 0 = .ok (.aload_n 0, 1) := by decide +kernel
theorem d_M_burn_1 : decode prog_14_method_82_code 1 = .ok (.iconst 0, 1) := by decide +kernel
theorem d_M_burn_2 : decode prog_14_method_82_code 2 = .ok (.putfield 132, 3) := by decide +kernel
theorem d_M_burn_5 : decode prog_14_method_82_code 5 = .ok (.aload_n 0, 1) := by decide +kernel
theorem d_M_burn_6 : decode prog_14_method_82_code 6 = .ok (.iload_n 1, 1) := by decide +kernel
theorem d_M_burn_7 : decode prog_14_method_82_code 7 = .ok (.invokevirtual 309, 3) := by decide +kernel
theorem d_M_burn_10 : decode prog_14_method_82_code 10 = .ok (.ifCond .eq 12, 3) := by decide +kernel
theorem d_M_burn_22 : decode prog_14_method_82_code 22 = .ok (.iconst (-1), 1) := by decide +kernel
theorem d_M_burn_23 : decode prog_14_method_82_code 23 = .ok (.ireturn, 1) := by decide +kernel
theorem d_M_burn_13 : decode prog_14_method_82_code 13 = .ok (.aload_n 0, 1) := by decide +kernel
theorem d_M_burn_14 : decode prog_14_method_82_code 14 = .ok (.getfield 72, 3) := by decide +kernel
theorem d_M_burn_17 : decode prog_14_method_82_code 17 = .ok (.iload_n 1, 1) := by decide +kernel
theorem d_M_burn_18 : decode prog_14_method_82_code 18 = .ok (.baload, 1) := by decide +kernel
theorem d_M_burn_19 : decode prog_14_method_82_code 19 = .ok (.ifCond .eq 5, 3) := by decide +kernel
theorem d_M_burn_24 : decode prog_14_method_82_code 24 = .ok (.aload_n 0, 1) := by decide +kernel
theorem d_M_burn_25 : decode prog_14_method_82_code 25 = .ok (.getfield 72, 3) := by decide +kernel
theorem d_M_burn_28 : decode prog_14_method_82_code 28 = .ok (.iload_n 1, 1) := by decide +kernel
theorem d_M_burn_29 : decode prog_14_method_82_code 29 = .ok (.iconst 1, 1) := by decide +kernel
theorem d_M_burn_30 : decode prog_14_method_82_code 30 = .ok (.bastore, 1) := by decide +kernel
theorem d_M_burn_31 : decode prog_14_method_82_code 31 = .ok (.aload_n 0, 1) := by decide +kernel
theorem d_M_burn_32 : decode prog_14_method_82_code 32 = .ok (.dup, 1) := by decide +kernel
theorem d_M_burn_33 : decode prog_14_method_82_code 33 = .ok (.getfield 399, 3) := by decide +kernel
theorem d_M_burn_36 : decode prog_14_method_82_code 36 = .ok (.iconst 1, 1) := by decide +kernel
theorem d_M_burn_37 : decode prog_14_method_82_code 37 = .ok (.iadd, 1) := by decide +kernel
theorem d_M_burn_38 : decode prog_14_method_82_code 38 = .ok (.putfield 399, 3) := by decide +kernel
theorem d_M_burn_41 : decode prog_14_method_82_code 41 = .ok (.aload_n 0, 1) := by decide +kernel
theorem d_M_burn_42 : decode prog_14_method_82_code 42 = .ok (.getfield 277, 3) := by decide +kernel
theorem d_M_burn_45 : decode prog_14_method_82_code 45 = .ok (.aload_n 0, 1) := by decide +kernel
theorem d_M_burn_46 : decode prog_14_method_82_code 46 = .ok (.getfield 399, 3) := by decide +kernel
theorem d_M_burn_49 : decode prog_14_method_82_code 49 = .ok (.isub, 1) := by decide +kernel
theorem d_M_burn_50 : decode prog_14_method_82_code 50 = .ok (.ireturn, 1) := by decide +kernel
theorem d_M_sums_0 : decode prog_14_method_83_code 0 = .ok (.iconst 0, 1) := by decide +kernel
theorem d_M_sums_1 : decode prog_14_method_83_code 1 = .ok (.istore_n 1, 1) := by decide +kernel
theorem d_M_sums_2 : decode prog_14_method_83_code 2 = .ok (.iload_n 1, 1) := by decide +kernel
theorem d_M_sums_3 : decode prog_14_method_83_code 3 = .ok (.aload_n 0, 1) := by decide +kernel
theorem d_M_sums_4 : decode prog_14_method_83_code 4 = .ok (.getfield 114, 3) := by decide +kernel
theorem d_M_sums_7 : decode prog_14_method_83_code 7 = .ok (.arraylength, 1) := by decide +kernel
theorem d_M_sums_8 : decode prog_14_method_83_code 8 = .ok (.if_icmp .ge 21, 3) := by decide +kernel
theorem d_M_sums_11 : decode prog_14_method_83_code 11 = .ok (.aload_n 0, 1) := by decide +kernel
theorem d_M_sums_12 : decode prog_14_method_83_code 12 = .ok (.getfield 114, 3) := by decide +kernel
theorem d_M_sums_15 : decode prog_14_method_83_code 15 = .ok (.iload_n 1, 1) := by decide +kernel
theorem d_M_sums_16 : decode prog_14_method_83_code 16 = .ok (.aload_n 0, 1) := by decide +kernel
theorem d_M_sums_17 : decode prog_14_method_83_code 17 = .ok (.getfield 45, 3) := by decide +kernel
theorem d_M_sums_20 : decode prog_14_method_83_code 20 = .ok (.iload_n 1, 1) := by decide +kernel
theorem d_M_sums_21 : decode prog_14_method_83_code 21 = .ok (.iaload, 1) := by decide +kernel
theorem d_M_sums_22 : decode prog_14_method_83_code 22 = .ok (.iastore, 1) := by decide +kernel
theorem d_M_sums_23 : decode prog_14_method_83_code 23 = .ok (.iinc 1 1, 3) := by decide +kernel
theorem d_M_sums_26 : decode prog_14_method_83_code 26 = .ok (.goto (-24), 3) := by decide +kernel
theorem d_M_sums_29 : decode prog_14_method_83_code 29 = .ok (.iconst 0, 1) := by decide +kernel
theorem d_M_sums_30 : decode prog_14_method_83_code 30 = .ok (.istore_n 1, 1) := by decide +kernel
theorem d_M_sums_31 : decode prog_14_method_83_code 31 = .ok (.iload_n 1, 1) := by decide +kernel
theorem d_M_sums_32 : decode prog_14_method_83_code 32 = .ok (.bipush 6, 2) := by decide +kernel
theorem d_M_sums_34 : decode prog_14_method_83_code 34 = .ok (.if_icmp .ge 85, 3) := by decide +kernel
theorem d_M_sums_37 : decode prog_14_method_83_code 37 = .ok (.iconst 0, 1) := by decide +kernel
theorem d_M_sums_38 : decode prog_14_method_83_code 38 = .ok (.istore_n 2, 1) := by decide +kernel
theorem d_M_sums_39 : decode prog_14_method_83_code 39 = .ok (.iload_n 2, 1) := by decide +kernel
theorem d_M_sums_40 : decode prog_14_method_83_code 40 = .ok (.bipush 6, 2) := by decide +kernel
theorem d_M_sums_42 : decode prog_14_method_83_code 42 = .ok (.if_icmp .ge 71, 3) := by decide +kernel
theorem d_M_sums_45 : decode prog_14_method_83_code 45 = .ok (.iconst 0, 1) := by decide +kernel
theorem d_M_sums_46 : decode prog_14_method_83_code 46 = .ok (.istore_n 3, 1) := by decide +kernel
theorem d_M_sums_47 : decode prog_14_method_83_code 47 = .ok (.iload_n 3, 1) := by decide +kernel
theorem d_M_sums_48 : decode prog_14_method_83_code 48 = .ok (.bipush 6, 2) := by decide +kernel
theorem d_M_sums_50 : decode prog_14_method_83_code 50 = .ok (.if_icmp .ge 57, 3) := by decide +kernel
theorem d_M_sums_53 : decode prog_14_method_83_code 53 = .ok (.aload_n 0, 1) := by decide +kernel
theorem d_M_sums_54 : decode prog_14_method_83_code 54 = .ok (.getfield 114, 3) := by decide +kernel
theorem d_M_sums_57 : decode prog_14_method_83_code 57 = .ok (.bipush 6, 2) := by decide +kernel
theorem d_M_sums_59 : decode prog_14_method_83_code 59 = .ok (.iload_n 2, 1) := by decide +kernel
theorem d_M_sums_60 : decode prog_14_method_83_code 60 = .ok (.imul, 1) := by decide +kernel
theorem d_M_sums_61 : decode prog_14_method_83_code 61 = .ok (.iload_n 3, 1) := by decide +kernel
theorem d_M_sums_62 : decode prog_14_method_83_code 62 = .ok (.iadd, 1) := by decide +kernel
theorem d_M_sums_63 : decode prog_14_method_83_code 63 = .ok (.aload_n 0, 1) := by decide +kernel
theorem d_M_sums_64 : decode prog_14_method_83_code 64 = .ok (.getfield 114, 3) := by decide +kernel
theorem d_M_sums_67 : decode prog_14_method_83_code 67 = .ok (.bipush 6, 2) := by decide +kernel
theorem d_M_sums_69 : decode prog_14_method_83_code 69 = .ok (.iload_n 2, 1) := by decide +kernel
theorem d_M_sums_70 : decode prog_14_method_83_code 70 = .ok (.imul, 1) := by decide +kernel
theorem d_M_sums_71 : decode prog_14_method_83_code 71 = .ok (.iload_n 3, 1) := by decide +kernel
theorem d_M_sums_72 : decode prog_14_method_83_code 72 = .ok (.iadd, 1) := by decide +kernel
theorem d_M_sums_73 : decode prog_14_method_83_code 73 = .ok (.iaload, 1) := by decide +kernel
theorem d_M_sums_74 : decode prog_14_method_83_code 74 = .ok (.aload_n 0, 1) := by decide +kernel
theorem d_M_sums_75 : decode prog_14_method_83_code 75 = .ok (.getfield 114, 3) := by decide +kernel
theorem d_M_sums_78 : decode prog_14_method_83_code 78 = .ok (.bipush 6, 2) := by decide +kernel
theorem d_M_sums_80 : decode prog_14_method_83_code 80 = .ok (.iload_n 2, 1) := by decide +kernel
theorem d_M_sums_81 : decode prog_14_method_83_code 81 = .ok (.imul, 1) := by decide +kernel
theorem d_M_sums_82 : decode prog_14_method_83_code 82 = .ok (.iload_n 1, 1) := by decide +kernel
theorem d_M_sums_83 : decode prog_14_method_83_code 83 = .ok (.iadd, 1) := by decide +kernel
theorem d_M_sums_84 : decode prog_14_method_83_code 84 = .ok (.iaload, 1) := by decide +kernel
theorem d_M_sums_85 : decode prog_14_method_83_code 85 = .ok (.aload_n 0, 1) := by decide +kernel
theorem d_M_sums_86 : decode prog_14_method_83_code 86 = .ok (.getfield 114, 3) := by decide +kernel
theorem d_M_sums_89 : decode prog_14_method_83_code 89 = .ok (.bipush 6, 2) := by decide +kernel
theorem d_M_sums_91 : decode prog_14_method_83_code 91 = .ok (.iload_n 1, 1) := by decide +kernel
theorem d_M_sums_92 : decode prog_14_method_83_code 92 = .ok (.imul, 1) := by decide +kernel
theorem d_M_sums_93 : decode prog_14_method_83_code 93 = .ok (.iload_n 3, 1) := by decide +kernel
theorem d_M_sums_94 : decode prog_14_method_83_code 94 = .ok (.iadd, 1) := by decide +kernel
theorem d_M_sums_95 : decode prog_14_method_83_code 95 = .ok (.iaload, 1) := by decide +kernel
theorem d_M_sums_96 : decode prog_14_method_83_code 96 = .ok (.iadd, 1) := by decide +kernel
theorem d_M_sums_97 : decode prog_14_method_83_code 97 = .ok (.invokestatic 353, 3) := by decide +kernel
theorem d_M_sums_100 : decode prog_14_method_83_code 100 = .ok (.iastore, 1) := by decide +kernel
theorem d_M_sums_101 : decode prog_14_method_83_code 101 = .ok (.iinc 3 1, 3) := by decide +kernel
theorem d_M_sums_104 : decode prog_14_method_83_code 104 = .ok (.goto (-57), 3) := by decide +kernel
theorem d_M_sums_107 : decode prog_14_method_83_code 107 = .ok (.iinc 2 1, 3) := by decide +kernel
theorem d_M_sums_110 : decode prog_14_method_83_code 110 = .ok (.goto (-71), 3) := by decide +kernel
theorem d_M_sums_113 : decode prog_14_method_83_code 113 = .ok (.iinc 1 1, 3) := by decide +kernel
theorem d_M_sums_116 : decode prog_14_method_83_code 116 = .ok (.goto (-85), 3) := by decide +kernel
theorem d_M_sums_119 : decode prog_14_method_83_code 119 = .ok (.return_, 1) := by decide +kernel
theorem d_M_could_0 : decode prog_14_method_84_code 0 = .ok (.aload_n 0, 1) := by decide +kernel
theorem d_M_could_1 : decode prog_14_method_84_code 1 = .ok (.iconst 0, 1) := by decide +kernel
theorem d_M_could_2 : decode prog_14_method_84_code 2 = .ok (.putfield 132, 3) := by decide +kernel
theorem d_M_could_5 : decode prog_14_method_84_code 5 = .ok (.aload_n 0, 1) := by decide +kernel
theorem d_M_could_6 : decode prog_14_method_84_code 6 = .ok (.iload_n 1, 1) := by decide +kernel
theorem d_M_could_7 : decode prog_14_method_84_code 7 = .ok (.invokevirtual 309, 3) := by decide +kernel
theorem d_M_could_10 : decode prog_14_method_84_code 10 = .ok (.ifCond .eq 34, 3) := by decide +kernel
theorem d_M_could_44 : decode prog_14_method_84_code 44 = .ok (.iconst (-1), 1) := by decide +kernel
theorem d_M_could_45 : decode prog_14_method_84_code 45 = .ok (.ireturn, 1) := by decide +kernel
theorem d_M_could_13 : decode prog_14_method_84_code 13 = .ok (.aload_n 0, 1) := by decide +kernel
theorem d_M_could_14 : decode prog_14_method_84_code 14 = .ok (.iload_n 2, 1) := by decide +kernel
theorem d_M_could_15 : decode prog_14_method_84_code 15 = .ok (.invokevirtual 309, 3) := by decide +kernel
theorem d_M_could_18 : decode prog_14_method_84_code 18 = .ok (.ifCond .eq 26, 3) := by decide +kernel
theorem d_M_could_21 : decode prog_14_method_84_code 21 = .ok (.iload_n 1, 1) := by decide +kernel
theorem d_M_could_22 : decode prog_14_method_84_code 22 = .ok (.iload_n 2, 1) := by decide +kernel
theorem d_M_could_23 : decode prog_14_method_84_code 23 = .ok (.if_icmp .eq 21, 3) := by decide +kernel
theorem d_M_could_26 : decode prog_14_method_84_code 26 = .ok (.aload_n 0, 1) := by decide +kernel
theorem d_M_could_27 : decode prog_14_method_84_code 27 = .ok (.getfield 72, 3) := by decide +kernel
theorem d_M_could_30 : decode prog_14_method_84_code 30 = .ok (.iload_n 1, 1) := by decide +kernel
theorem d_M_could_31 : decode prog_14_method_84_code 31 = .ok (.baload, 1) := by decide +kernel
theorem d_M_could_32 : decode prog_14_method_84_code 32 = .ok (.ifCond .ne 12, 3) := by decide +kernel
theorem d_M_could_35 : decode prog_14_method_84_code 35 = .ok (.aload_n 0, 1) := by decide +kernel
theorem d_M_could_36 : decode prog_14_method_84_code 36 = .ok (.getfield 72, 3) := by decide +kernel
theorem d_M_could_39 : decode prog_14_method_84_code 39 = .ok (.iload_n 2, 1) := by decide +kernel
theorem d_M_could_40 : decode prog_14_method_84_code 40 = .ok (.baload, 1) := by decide +kernel
theorem d_M_could_41 : decode prog_14_method_84_code 41 = .ok (.ifCond .eq 5, 3) := by decide +kernel
theorem d_M_could_46 : decode prog_14_method_84_code 46 = .ok (.aload_n 0, 1) := by decide +kernel
theorem d_M_could_47 : decode prog_14_method_84_code 47 = .ok (.iconst 1, 1) := by decide +kernel
theorem d_M_could_48 : decode prog_14_method_84_code 48 = .ok (.invokevirtual 371, 3) := by decide +kernel
theorem d_M_could_51 : decode prog_14_method_84_code 51 = .ok (.aload_n 0, 1) := by decide +kernel
theorem d_M_could_52 : decode prog_14_method_84_code 52 = .ok (.getfield 108, 3) := by decide +kernel
theorem d_M_could_55 : decode prog_14_method_84_code 55 = .ok (.iload_n 2, 1) := by decide +kernel
theorem d_M_could_56 : decode prog_14_method_84_code 56 = .ok (.iaload, 1) := by decide +kernel
theorem d_M_could_57 : decode prog_14_method_84_code 57 = .ok (.iload_n 1, 1) := by decide +kernel
theorem d_M_could_58 : decode prog_14_method_84_code 58 = .ok (.ishr, 1) := by decide +kernel
theorem d_M_could_59 : decode prog_14_method_84_code 59 = .ok (.iconst 1, 1) := by decide +kernel
theorem d_M_could_60 : decode prog_14_method_84_code 60 = .ok (.iand, 1) := by decide +kernel
theorem d_M_could_61 : decode prog_14_method_84_code 61 = .ok (.iconst 1, 1) := by decide +kernel
theorem d_M_could_62 : decode prog_14_method_84_code 62 = .ok (.if_icmp .ne 5, 3) := by decide +kernel
theorem d_M_could_67 : decode prog_14_method_84_code 67 = .ok (.aload_n 0, 1) := by decide +kernel
theorem d_M_could_68 : decode prog_14_method_84_code 68 = .ok (.invokevirtual 402, 3) := by decide +kernel
theorem d_M_could_71 : decode prog_14_method_84_code 71 = .ok (.aload_n 0, 1) := by decide +kernel
theorem d_M_could_72 : decode prog_14_method_84_code 72 = .ok (.getfield 48, 3) := by decide +kernel
theorem d_M_could_75 : decode prog_14_method_84_code 75 = .ok (.iload_n 1, 1) := by decide +kernel
theorem d_M_could_76 : decode prog_14_method_84_code 76 = .ok (.iaload, 1) := by decide +kernel
theorem d_M_could_77 : decode prog_14_method_84_code 77 = .ok (.aload_n 0, 1) := by decide +kernel
theorem d_M_could_78 : decode prog_14_method_84_code 78 = .ok (.getfield 48, 3) := by decide +kernel
theorem d_M_could_81 : decode prog_14_method_84_code 81 = .ok (.iload_n 2, 1) := by decide +kernel
theorem d_M_could_82 : decode prog_14_method_84_code 82 = .ok (.iaload, 1) := by decide +kernel
theorem d_M_could_83 : decode prog_14_method_84_code 83 = .ok (.if_icmp .ne 17, 3) := by decide +kernel
theorem d_M_could_100 : decode prog_14_method_84_code 100 = .ok (.aload_n 0, 1) := by decide +kernel
theorem d_M_could_101 : decode prog_14_method_84_code 101 = .ok (.getfield 51, 3) := by decide +kernel
theorem d_M_could_104 : decode prog_14_method_84_code 104 = .ok (.iload_n 2, 1) := by decide +kernel
theorem d_M_could_105 : decode prog_14_method_84_code 105 = .ok (.iaload, 1) := by decide +kernel
theorem d_M_could_106 : decode prog_14_method_84_code 106 = .ok (.aload_n 0, 1) := by decide +kernel
theorem d_M_could_107 : decode prog_14_method_84_code 107 = .ok (.getfield 51, 3) := by decide +kernel
theorem d_M_could_110 : decode prog_14_method_84_code 110 = .ok (.iload_n 1, 1) := by decide +kernel
theorem d_M_could_111 : decode prog_14_method_84_code 111 = .ok (.iaload, 1) := by decide +kernel
theorem d_M_could_112 : decode prog_14_method_84_code 112 = .ok (.isub, 1) := by decide +kernel
theorem d_M_could_113 : decode prog_14_method_84_code 113 = .ok (.aload_n 0, 1) := by decide +kernel
theorem d_M_could_114 : decode prog_14_method_84_code 114 = .ok (.getfield 114, 3) := by decide +kernel
theorem d_M_could_117 : decode prog_14_method_84_code 117 = .ok (.bipush 6, 2) := by decide +kernel
theorem d_M_could_119 : decode prog_14_method_84_code 119 = .ok (.aload_n 0, 1) := by decide +kernel
theorem d_M_could_120 : decode prog_14_method_84_code 120 = .ok (.getfield 48, 3) := by decide +kernel
theorem d_M_could_123 : decode prog_14_method_84_code 123 = .ok (.iload_n 1, 1) := by decide +kernel
theorem d_M_could_124 : decode prog_14_method_84_code 124 = .ok (.iaload, 1) := by decide +kernel
theorem d_M_could_125 : decode prog_14_method_84_code 125 = .ok (.imul, 1) := by decide +kernel
theorem d_M_could_126 : decode prog_14_method_84_code 126 = .ok (.aload_n 0, 1) := by decide +kernel
theorem d_M_could_127 : decode prog_14_method_84_code 127 = .ok (.getfield 48, 3) := by decide +kernel
theorem d_M_could_130 : decode prog_14_method_84_code 130 = .ok (.iload_n 2, 1) := by decide +kernel
theorem d_M_could_131 : decode prog_14_method_84_code 131 = .ok (.iaload, 1) := by decide +kernel
theorem d_M_could_132 : decode prog_14_method_84_code 132 = .ok (.iadd, 1) := by decide +kernel
theorem d_M_could_133 : decode prog_14_method_84_code 133 = .ok (.iaload, 1) := by decide +kernel
theorem d_M_could_134 : decode prog_14_method_84_code 134 = .ok (.if_icmp .lt 7, 3) := by decide +kernel
theorem d_M_could_141 : decode prog_14_method_84_code 141 = .ok (.iconst 0, 1) := by decide +kernel
theorem d_M_could_142 : decode prog_14_method_84_code 142 = .ok (.invokestatic 270, 3) := by decide +kernel
theorem d_M_could_145 : decode prog_14_method_84_code 145 = .ok (.ireturn, 1) := by decide +kernel
theorem d_M_could_137 : decode prog_14_method_84_code 137 = .ok (.iconst 1, 1) := by decide +kernel
theorem d_M_could_138 : decode prog_14_method_84_code 138 = .ok (.goto 4, 3) := by decide +kernel
theorem d_M_could_86 : decode prog_14_method_84_code 86 = .ok (.iload_n 1, 1) := by decide +kernel
theorem d_M_could_87 : decode prog_14_method_84_code 87 = .ok (.iload_n 2, 1) := by decide +kernel
theorem d_M_could_88 : decode prog_14_method_84_code 88 = .ok (.if_icmp .ge 7, 3) := by decide +kernel
theorem d_M_could_95 : decode prog_14_method_84_code 95 = .ok (.iconst 0, 1) := by decide +kernel
theorem d_M_could_96 : decode prog_14_method_84_code 96 = .ok (.invokestatic 270, 3) := by decide +kernel
theorem d_M_could_99 : decode prog_14_method_84_code 99 = .ok (.ireturn, 1) := by decide +kernel
theorem d_M_could_91 : decode prog_14_method_84_code 91 = .ok (.iconst 1, 1) := by decide +kernel
theorem d_M_could_92 : decode prog_14_method_84_code 92 = .ok (.goto 4, 3) := by decide +kernel
theorem d_M_could_65 : decode prog_14_method_84_code 65 = .ok (.iconst 2, 1) := by decide +kernel
theorem d_M_could_66 : decode prog_14_method_84_code 66 = .ok (.ireturn, 1) := by decide +kernel
theorem d_M_listed_0 : decode prog_14_method_85_code 0 = .ok (.iload_n 0, 1) := by decide +kernel
theorem d_M_listed_1 : decode prog_14_method_85_code 1 = .ok (.iconst 5, 1) := by decide +kernel
theorem d_M_listed_2 : decode prog_14_method_85_code 2 = .ok (.iload_n 1, 1) := by decide +kernel
theorem d_M_listed_3 : decode prog_14_method_85_code 3 = .ok (.imul, 1) := by decide +kernel
theorem d_M_listed_4 : decode prog_14_method_85_code 4 = .ok (.ishr, 1) := by decide +kernel
theorem d_M_listed_5 : decode prog_14_method_85_code 5 = .ok (.bipush 31, 2) := by decide +kernel
theorem d_M_listed_7 : decode prog_14_method_85_code 7 = .ok (.iand, 1) := by decide +kernel
theorem d_M_listed_8 : decode prog_14_method_85_code 8 = .ok (.ireturn, 1) := by decide +kernel
theorem d_M_manyBy_0 : decode prog_14_method_86_code 0 = .ok (.iconst 0, 1) := by decide +kernel
theorem d_M_manyBy_1 : decode prog_14_method_86_code 1 = .ok (.istore_n 3, 1) := by decide +kernel
theorem d_M_manyBy_2 : decode prog_14_method_86_code 2 = .ok (.iconst 0, 1) := by decide +kernel
theorem d_M_manyBy_3 : decode prog_14_method_86_code 3 = .ok (.istore 4, 2) := by decide +kernel
theorem d_M_manyBy_5 : decode prog_14_method_86_code 5 = .ok (.iload 4, 2) := by decide +kernel
theorem d_M_manyBy_7 : decode prog_14_method_86_code 7 = .ok (.aload_n 0, 1) := by decide +kernel
theorem d_M_manyBy_8 : decode prog_14_method_86_code 8 = .ok (.getfield 277, 3) := by decide +kernel
theorem d_M_manyBy_11 : decode prog_14_method_86_code 11 = .ok (.if_icmp .ge 39, 3) := by decide +kernel
theorem d_M_manyBy_14 : decode prog_14_method_86_code 14 = .ok (.iload_n 3, 1) := by decide +kernel
theorem d_M_manyBy_15 : decode prog_14_method_86_code 15 = .ok (.aload_n 0, 1) := by decide +kernel
theorem d_M_manyBy_16 : decode prog_14_method_86_code 16 = .ok (.getfield 48, 3) := by decide +kernel
theorem d_M_manyBy_19 : decode prog_14_method_86_code 19 = .ok (.iload 4, 2) := by decide +kernel
theorem d_M_manyBy_21 : decode prog_14_method_86_code 21 = .ok (.iaload, 1) := by decide +kernel
theorem d_M_manyBy_22 : decode prog_14_method_86_code 22 = .ok (.iload_n 1, 1) := by decide +kernel
theorem d_M_manyBy_23 : decode prog_14_method_86_code 23 = .ok (.if_icmp .ne 18, 3) := by decide +kernel
theorem d_M_manyBy_41 : decode prog_14_method_86_code 41 = .ok (.iconst 0, 1) := by decide +kernel
theorem d_M_manyBy_42 : decode prog_14_method_86_code 42 = .ok (.iadd, 1) := by decide +kernel
theorem d_M_manyBy_43 : decode prog_14_method_86_code 43 = .ok (.istore_n 3, 1) := by decide +kernel
theorem d_M_manyBy_44 : decode prog_14_method_86_code 44 = .ok (.iinc 4 1, 3) := by decide +kernel
theorem d_M_manyBy_47 : decode prog_14_method_86_code 47 = .ok (.goto (-42), 3) := by decide +kernel
theorem d_M_manyBy_26 : decode prog_14_method_86_code 26 = .ok (.aload_n 0, 1) := by decide +kernel
theorem d_M_manyBy_27 : decode prog_14_method_86_code 27 = .ok (.getfield 51, 3) := by decide +kernel
theorem d_M_manyBy_30 : decode prog_14_method_86_code 30 = .ok (.iload 4, 2) := by decide +kernel
theorem d_M_manyBy_32 : decode prog_14_method_86_code 32 = .ok (.iaload, 1) := by decide +kernel
theorem d_M_manyBy_33 : decode prog_14_method_86_code 33 = .ok (.iload_n 2, 1) := by decide +kernel
theorem d_M_manyBy_34 : decode prog_14_method_86_code 34 = .ok (.if_icmp .gt 7, 3) := by decide +kernel
theorem d_M_manyBy_37 : decode prog_14_method_86_code 37 = .ok (.iconst 1, 1) := by decide +kernel
theorem d_M_manyBy_38 : decode prog_14_method_86_code 38 = .ok (.goto 4, 3) := by decide +kernel
theorem d_M_manyBy_50 : decode prog_14_method_86_code 50 = .ok (.iload_n 3, 1) := by decide +kernel
theorem d_M_manyBy_51 : decode prog_14_method_86_code 51 = .ok (.ireturn, 1) := by decide +kernel
theorem d_M_letterOf_0 : decode prog_14_method_87_code 0 = .ok (.iconst 0, 1) := by decide +kernel
theorem d_M_letterOf_1 : decode prog_14_method_87_code 1 = .ok (.istore_n 3, 1) := by decide +kernel
theorem d_M_letterOf_2 : decode prog_14_method_87_code 2 = .ok (.iconst 0, 1) := by decide +kernel
theorem d_M_letterOf_3 : decode prog_14_method_87_code 3 = .ok (.istore 4, 2) := by decide +kernel
theorem d_M_letterOf_5 : decode prog_14_method_87_code 5 = .ok (.iload 4, 2) := by decide +kernel
theorem d_M_letterOf_7 : decode prog_14_method_87_code 7 = .ok (.aload_n 0, 1) := by decide +kernel
theorem d_M_letterOf_8 : decode prog_14_method_87_code 8 = .ok (.getfield 277, 3) := by decide +kernel
theorem d_M_letterOf_11 : decode prog_14_method_87_code 11 = .ok (.if_icmp .ge 47, 3) := by decide +kernel
theorem d_M_letterOf_14 : decode prog_14_method_87_code 14 = .ok (.iload_n 3, 1) := by decide +kernel
theorem d_M_letterOf_15 : decode prog_14_method_87_code 15 = .ok (.aload_n 0, 1) := by decide +kernel
theorem d_M_letterOf_16 : decode prog_14_method_87_code 16 = .ok (.getfield 48, 3) := by decide +kernel
theorem d_M_letterOf_19 : decode prog_14_method_87_code 19 = .ok (.iload 4, 2) := by decide +kernel
theorem d_M_letterOf_21 : decode prog_14_method_87_code 21 = .ok (.iaload, 1) := by decide +kernel
theorem d_M_letterOf_22 : decode prog_14_method_87_code 22 = .ok (.iload_n 1, 1) := by decide +kernel
theorem d_M_letterOf_23 : decode prog_14_method_87_code 23 = .ok (.if_icmp .ne 7, 3) := by decide +kernel
theorem d_M_letterOf_30 : decode prog_14_method_87_code 30 = .ok (.iconst 0, 1) := by decide +kernel
theorem d_M_letterOf_31 : decode prog_14_method_87_code 31 = .ok (.iadd, 1) := by decide +kernel
theorem d_M_letterOf_32 : decode prog_14_method_87_code 32 = .ok (.istore_n 3, 1) := by decide +kernel
theorem d_M_letterOf_33 : decode prog_14_method_87_code 33 = .ok (.iload_n 3, 1) := by decide +kernel
theorem d_M_letterOf_34 : decode prog_14_method_87_code 34 = .ok (.iload_n 2, 1) := by decide +kernel
theorem d_M_letterOf_35 : decode prog_14_method_87_code 35 = .ok (.if_icmp .ne 17, 3) := by decide +kernel
theorem d_M_letterOf_52 : decode prog_14_method_87_code 52 = .ok (.iinc 4 1, 3) := by decide +kernel
theorem d_M_letterOf_55 : decode prog_14_method_87_code 55 = .ok (.goto (-50), 3) := by decide +kernel
theorem d_M_letterOf_38 : decode prog_14_method_87_code 38 = .ok (.aload_n 0, 1) := by decide +kernel
theorem d_M_letterOf_39 : decode prog_14_method_87_code 39 = .ok (.getfield 48, 3) := by decide +kernel
theorem d_M_letterOf_42 : decode prog_14_method_87_code 42 = .ok (.iload 4, 2) := by decide +kernel
theorem d_M_letterOf_44 : decode prog_14_method_87_code 44 = .ok (.iaload, 1) := by decide +kernel
theorem d_M_letterOf_45 : decode prog_14_method_87_code 45 = .ok (.iload_n 1, 1) := by decide +kernel
theorem d_M_letterOf_46 : decode prog_14_method_87_code 46 = .ok (.if_icmp .ne 6, 3) := by decide +kernel
theorem d_M_letterOf_26 : decode prog_14_method_87_code 26 = .ok (.iconst 1, 1) := by decide +kernel
theorem d_M_letterOf_27 : decode prog_14_method_87_code 27 = .ok (.goto 4, 3) := by decide +kernel
theorem d_M_letterOf_49 : decode prog_14_method_87_code 49 = .ok (.iload 4, 2) := by decide +kernel
theorem d_M_letterOf_51 : decode prog_14_method_87_code 51 = .ok (.ireturn, 1) := by decide +kernel
theorem d_M_letterOf_58 : decode prog_14_method_87_code 58 = .ok (.iconst (-1), 1) := by decide +kernel
theorem d_M_letterOf_59 : decode prog_14_method_87_code 59 = .ok (.ireturn, 1) := by decide +kernel
theorem d_M_isMore_0 : decode prog_14_method_88_code 0 = .ok (.iconst 0, 1) := by decide +kernel
theorem d_M_isMore_1 : decode prog_14_method_88_code 1 = .ok (.istore_n 3, 1) := by decide +kernel
theorem d_M_isMore_2 : decode prog_14_method_88_code 2 = .ok (.iload_n 3, 1) := by decide +kernel
theorem d_M_isMore_3 : decode prog_14_method_88_code 3 = .ok (.bipush 6, 2) := by decide +kernel
theorem d_M_isMore_5 : decode prog_14_method_88_code 5 = .ok (.if_icmp .ge 25, 3) := by decide +kernel
theorem d_M_isMore_8 : decode prog_14_method_88_code 8 = .ok (.aload_n 0, 1) := by decide +kernel
theorem d_M_isMore_9 : decode prog_14_method_88_code 9 = .ok (.iload_n 1, 1) := by decide +kernel
theorem d_M_isMore_10 : decode prog_14_method_88_code 10 = .ok (.iload_n 3, 1) := by decide +kernel
theorem d_M_isMore_11 : decode prog_14_method_88_code 11 = .ok (.invokevirtual 361, 3) := by decide +kernel
theorem d_M_isMore_14 : decode prog_14_method_88_code 14 = .ok (.iload_n 2, 1) := by decide +kernel
theorem d_M_isMore_15 : decode prog_14_method_88_code 15 = .ok (.iload_n 3, 1) := by decide +kernel
theorem d_M_isMore_16 : decode prog_14_method_88_code 16 = .ok (.invokestatic 404, 3) := by decide +kernel
theorem d_M_isMore_19 : decode prog_14_method_88_code 19 = .ok (.if_icmp .le 5, 3) := by decide +kernel
theorem d_M_isMore_24 : decode prog_14_method_88_code 24 = .ok (.iinc 3 1, 3) := by decide +kernel
theorem d_M_isMore_27 : decode prog_14_method_88_code 27 = .ok (.goto (-25), 3) := by decide +kernel
theorem d_M_isMore_22 : decode prog_14_method_88_code 22 = .ok (.iconst 1, 1) := by decide +kernel
theorem d_M_isMore_23 : decode prog_14_method_88_code 23 = .ok (.ireturn, 1) := by decide +kernel
theorem d_M_isMore_30 : decode prog_14_method_88_code 30 = .ok (.iconst 0, 1) := by decide +kernel
theorem d_M_isMore_31 : decode prog_14_method_88_code 31 = .ok (.ireturn, 1) := by decide +kernel
theorem d_M_forgedBy_0 : decode prog_14_method_89_code 0 = .ok (.iconst 0, 1) := by decide +kernel
theorem d_M_forgedBy_1 : decode prog_14_method_89_code 1 = .ok (.istore 4, 2) := by decide +kernel
theorem d_M_forgedBy_3 : decode prog_14_method_89_code 3 = .ok (.iload 4, 2) := by decide +kernel
theorem d_M_forgedBy_5 : decode prog_14_method_89_code 5 = .ok (.bipush 6, 2) := by decide +kernel
theorem d_M_forgedBy_7 : decode prog_14_method_89_code 7 = .ok (.if_icmp .ge 61, 3) := by decide +kernel
theorem d_M_forgedBy_10 : decode prog_14_method_89_code 10 = .ok (.iload 4, 2) := by decide +kernel
theorem d_M_forgedBy_12 : decode prog_14_method_89_code 12 = .ok (.iload_n 1, 1) := by decide +kernel
theorem d_M_forgedBy_13 : decode prog_14_method_89_code 13 = .ok (.if_icmp .ne 14, 3) := by decide +kernel
theorem d_M_forgedBy_27 : decode prog_14_method_89_code 27 = .ok (.aload_n 0, 1) := by decide +kernel
theorem d_M_forgedBy_28 : decode prog_14_method_89_code 28 = .ok (.iload 4, 2) := by decide +kernel
theorem d_M_forgedBy_30 : decode prog_14_method_89_code 30 = .ok (.iload_n 2, 1) := by decide +kernel
theorem d_M_forgedBy_31 : decode prog_14_method_89_code 31 = .ok (.aload_n 0, 1) := by decide +kernel
theorem d_M_forgedBy_32 : decode prog_14_method_89_code 32 = .ok (.getfield 114, 3) := by decide +kernel
theorem d_M_forgedBy_35 : decode prog_14_method_89_code 35 = .ok (.bipush 6, 2) := by decide +kernel
theorem d_M_forgedBy_37 : decode prog_14_method_89_code 37 = .ok (.iload 4, 2) := by decide +kernel
theorem d_M_forgedBy_39 : decode prog_14_method_89_code 39 = .ok (.imul, 1) := by decide +kernel
theorem d_M_forgedBy_40 : decode prog_14_method_89_code 40 = .ok (.iload_n 1, 1) := by decide +kernel
theorem d_M_forgedBy_41 : decode prog_14_method_89_code 41 = .ok (.iadd, 1) := by decide +kernel
theorem d_M_forgedBy_42 : decode prog_14_method_89_code 42 = .ok (.iaload, 1) := by decide +kernel
theorem d_M_forgedBy_43 : decode prog_14_method_89_code 43 = .ok (.isub, 1) := by decide +kernel
theorem d_M_forgedBy_44 : decode prog_14_method_89_code 44 = .ok (.invokevirtual 407, 3) := by decide +kernel
theorem d_M_forgedBy_47 : decode prog_14_method_89_code 47 = .ok (.istore 5, 2) := by decide +kernel
theorem d_M_forgedBy_49 : decode prog_14_method_89_code 49 = .ok (.iload_n 3, 1) := by decide +kernel
theorem d_M_forgedBy_50 : decode prog_14_method_89_code 50 = .ok (.iload 4, 2) := by decide +kernel
theorem d_M_forgedBy_52 : decode prog_14_method_89_code 52 = .ok (.invokestatic 404, 3) := by decide +kernel
theorem d_M_forgedBy_55 : decode prog_14_method_89_code 55 = .ok (.iload 5, 2) := by decide +kernel
theorem d_M_forgedBy_57 : decode prog_14_method_89_code 57 = .ok (.if_icmp .le 5, 3) := by decide +kernel
theorem d_M_forgedBy_62 : decode prog_14_method_89_code 62 = .ok (.iinc 4 1, 3) := by decide +kernel
theorem d_M_forgedBy_65 : decode prog_14_method_89_code 65 = .ok (.goto (-62), 3) := by decide +kernel
theorem d_M_forgedBy_16 : decode prog_14_method_89_code 16 = .ok (.aload_n 0, 1) := by decide +kernel
theorem d_M_forgedBy_17 : decode prog_14_method_89_code 17 = .ok (.iload_n 1, 1) := by decide +kernel
theorem d_M_forgedBy_18 : decode prog_14_method_89_code 18 = .ok (.iload_n 2, 1) := by decide +kernel
theorem d_M_forgedBy_19 : decode prog_14_method_89_code 19 = .ok (.invokevirtual 407, 3) := by decide +kernel
theorem d_M_forgedBy_22 : decode prog_14_method_89_code 22 = .ok (.iconst 1, 1) := by decide +kernel
theorem d_M_forgedBy_23 : decode prog_14_method_89_code 23 = .ok (.iadd, 1) := by decide +kernel
theorem d_M_forgedBy_24 : decode prog_14_method_89_code 24 = .ok (.goto 23, 3) := by decide +kernel
theorem d_M_forgedBy_60 : decode prog_14_method_89_code 60 = .ok (.iconst 1, 1) := by decide +kernel
theorem d_M_forgedBy_61 : decode prog_14_method_89_code 61 = .ok (.ireturn, 1) := by decide +kernel
theorem d_M_forgedBy_68 : decode prog_14_method_89_code 68 = .ok (.iconst 0, 1) := by decide +kernel
theorem d_M_forgedBy_69 : decode prog_14_method_89_code 69 = .ok (.istore 4, 2) := by decide +kernel
theorem d_M_forgedBy_71 : decode prog_14_method_89_code 71 = .ok (.iload 4, 2) := by decide +kernel
theorem d_M_forgedBy_73 : decode prog_14_method_89_code 73 = .ok (.bipush 6, 2) := by decide +kernel
theorem d_M_forgedBy_75 : decode prog_14_method_89_code 75 = .ok (.if_icmp .ge 71, 3) := by decide +kernel
theorem d_M_forgedBy_78 : decode prog_14_method_89_code 78 = .ok (.iload_n 3, 1) := by decide +kernel
theorem d_M_forgedBy_79 : decode prog_14_method_89_code 79 = .ok (.iload 4, 2) := by decide +kernel
theorem d_M_forgedBy_81 : decode prog_14_method_89_code 81 = .ok (.invokestatic 404, 3) := by decide +kernel
theorem d_M_forgedBy_84 : decode prog_14_method_89_code 84 = .ok (.ifCond .ne 7, 3) := by decide +kernel
theorem d_M_forgedBy_91 : decode prog_14_method_89_code 91 = .ok (.aload_n 0, 1) := by decide +kernel
theorem d_M_forgedBy_92 : decode prog_14_method_89_code 92 = .ok (.iload 4, 2) := by decide +kernel
theorem d_M_forgedBy_94 : decode prog_14_method_89_code 94 = .ok (.iload_n 3, 1) := by decide +kernel
theorem d_M_forgedBy_95 : decode prog_14_method_89_code 95 = .ok (.iload 4, 2) := by decide +kernel
theorem d_M_forgedBy_97 : decode prog_14_method_89_code 97 = .ok (.invokestatic 404, 3) := by decide +kernel
theorem d_M_forgedBy_100 : decode prog_14_method_89_code 100 = .ok (.invokevirtual 410, 3) := by decide +kernel
theorem d_M_forgedBy_103 : decode prog_14_method_89_code 103 = .ok (.istore 5, 2) := by decide +kernel
theorem d_M_forgedBy_105 : decode prog_14_method_89_code 105 = .ok (.iload 5, 2) := by decide +kernel
theorem d_M_forgedBy_107 : decode prog_14_method_89_code 107 = .ok (.iconst (-1), 1) := by decide +kernel
theorem d_M_forgedBy_108 : decode prog_14_method_89_code 108 = .ok (.if_icmp .eq 32, 3) := by decide +kernel
theorem d_M_forgedBy_140 : decode prog_14_method_89_code 140 = .ok (.iinc 4 1, 3) := by decide +kernel
theorem d_M_forgedBy_143 : decode prog_14_method_89_code 143 = .ok (.goto (-72), 3) := by decide +kernel
theorem d_M_forgedBy_111 : decode prog_14_method_89_code 111 = .ok (.iload 4, 2) := by decide +kernel
theorem d_M_forgedBy_113 : decode prog_14_method_89_code 113 = .ok (.iload_n 1, 1) := by decide +kernel
theorem d_M_forgedBy_114 : decode prog_14_method_89_code 114 = .ok (.if_icmp .ne 14, 3) := by decide +kernel
theorem d_M_forgedBy_128 : decode prog_14_method_89_code 128 = .ok (.aload_n 0, 1) := by decide +kernel
theorem d_M_forgedBy_129 : decode prog_14_method_89_code 129 = .ok (.iload 5, 2) := by decide +kernel
theorem d_M_forgedBy_131 : decode prog_14_method_89_code 131 = .ok (.iload_n 3, 1) := by decide +kernel
theorem d_M_forgedBy_132 : decode prog_14_method_89_code 132 = .ok (.invokevirtual 413, 3) := by decide +kernel
theorem d_M_forgedBy_135 : decode prog_14_method_89_code 135 = .ok (.ifCond .eq 5, 3) := by decide +kernel
theorem d_M_forgedBy_117 : decode prog_14_method_89_code 117 = .ok (.aload_n 0, 1) := by decide +kernel
theorem d_M_forgedBy_118 : decode prog_14_method_89_code 118 = .ok (.getfield 51, 3) := by decide +kernel
theorem d_M_forgedBy_121 : decode prog_14_method_89_code 121 = .ok (.iload 5, 2) := by decide +kernel
theorem d_M_forgedBy_123 : decode prog_14_method_89_code 123 = .ok (.iaload, 1) := by decide +kernel
theorem d_M_forgedBy_124 : decode prog_14_method_89_code 124 = .ok (.iload_n 2, 1) := by decide +kernel
theorem d_M_forgedBy_125 : decode prog_14_method_89_code 125 = .ok (.if_icmp .gt 15, 3) := by decide +kernel
theorem d_M_forgedBy_87 : decode prog_14_method_89_code 87 = .ok (.iconst (-1), 1) := by decide +kernel
theorem d_M_forgedBy_88 : decode prog_14_method_89_code 88 = .ok (.goto 15, 3) := by decide +kernel
theorem d_M_forgedBy_138 : decode prog_14_method_89_code 138 = .ok (.iconst 2, 1) := by decide +kernel
theorem d_M_forgedBy_139 : decode prog_14_method_89_code 139 = .ok (.ireturn, 1) := by decide +kernel
theorem d_M_forgedBy_146 : decode prog_14_method_89_code 146 = .ok (.aload_n 0, 1) := by decide +kernel
theorem d_M_forgedBy_147 : decode prog_14_method_89_code 147 = .ok (.iload_n 1, 1) := by decide +kernel
theorem d_M_forgedBy_148 : decode prog_14_method_89_code 148 = .ok (.iload_n 2, 1) := by decide +kernel
theorem d_M_forgedBy_149 : decode prog_14_method_89_code 149 = .ok (.invokevirtual 407, 3) := by decide +kernel
theorem d_M_forgedBy_152 : decode prog_14_method_89_code 152 = .ok (.ifCond .ne 7, 3) := by decide +kernel
theorem d_M_forgedBy_159 : decode prog_14_method_89_code 159 = .ok (.aload_n 0, 1) := by decide +kernel
theorem d_M_forgedBy_160 : decode prog_14_method_89_code 160 = .ok (.iload_n 1, 1) := by decide +kernel
theorem d_M_forgedBy_161 : decode prog_14_method_89_code 161 = .ok (.aload_n 0, 1) := by decide +kernel
theorem d_M_forgedBy_162 : decode prog_14_method_89_code 162 = .ok (.iload_n 1, 1) := by decide +kernel
theorem d_M_forgedBy_163 : decode prog_14_method_89_code 163 = .ok (.iload_n 2, 1) := by decide +kernel
theorem d_M_forgedBy_164 : decode prog_14_method_89_code 164 = .ok (.invokevirtual 407, 3) := by decide +kernel
theorem d_M_forgedBy_167 : decode prog_14_method_89_code 167 = .ok (.invokevirtual 410, 3) := by decide +kernel
theorem d_M_forgedBy_170 : decode prog_14_method_89_code 170 = .ok (.istore 4, 2) := by decide +kernel
theorem d_M_forgedBy_172 : decode prog_14_method_89_code 172 = .ok (.iload 4, 2) := by decide +kernel
theorem d_M_forgedBy_174 : decode prog_14_method_89_code 174 = .ok (.iconst (-1), 1) := by decide +kernel
theorem d_M_forgedBy_175 : decode prog_14_method_89_code 175 = .ok (.if_icmp .eq 17, 3) := by decide +kernel
theorem d_M_forgedBy_192 : decode prog_14_method_89_code 192 = .ok (.iconst 0, 1) := by decide +kernel
theorem d_M_forgedBy_193 : decode prog_14_method_89_code 193 = .ok (.ireturn, 1) := by decide +kernel
theorem d_M_forgedBy_178 : decode prog_14_method_89_code 178 = .ok (.aload_n 0, 1) := by decide +kernel
theorem d_M_forgedBy_179 : decode prog_14_method_89_code 179 = .ok (.iload 4, 2) := by decide +kernel
theorem d_M_forgedBy_181 : decode prog_14_method_89_code 181 = .ok (.iload_n 3, 1) := by decide +kernel
theorem d_M_forgedBy_182 : decode prog_14_method_89_code 182 = .ok (.invokevirtual 413, 3) := by decide +kernel
theorem d_M_forgedBy_185 : decode prog_14_method_89_code 185 = .ok (.ifCond .eq 7, 3) := by decide +kernel
theorem d_M_forgedBy_188 : decode prog_14_method_89_code 188 = .ok (.iconst 3, 1) := by decide +kernel
theorem d_M_forgedBy_189 : decode prog_14_method_89_code 189 = .ok (.goto 4, 3) := by decide +kernel
theorem d_M_forgedBy_155 : decode prog_14_method_89_code 155 = .ok (.iconst (-1), 1) := by decide +kernel
theorem d_M_forgedBy_156 : decode prog_14_method_89_code 156 = .ok (.goto 14, 3) := by decide +kernel
theorem d_M_forged_0 : decode prog_14_method_90_code 0 = .ok (.aload_n 0, 1) := by decide +kernel
theorem d_M_forged_1 : decode prog_14_method_90_code 1 = .ok (.iconst 0, 1) := by decide +kernel
theorem d_M_forged_2 : decode prog_14_method_90_code 2 = .ok (.putfield 132, 3) := by decide +kernel
theorem d_M_forged_5 : decode prog_14_method_90_code 5 = .ok (.iload_n 1, 1) := by decide +kernel
theorem d_M_forged_6 : decode prog_14_method_90_code 6 = .ok (.invokestatic 280, 3) := by decide +kernel
theorem d_M_forged_9 : decode prog_14_method_90_code 9 = .ok (.ifCond .eq 19, 3) := by decide +kernel
theorem d_M_forged_28 : decode prog_14_method_90_code 28 = .ok (.iconst (-1), 1) := by decide +kernel
theorem d_M_forged_29 : decode prog_14_method_90_code 29 = .ok (.ireturn, 1) := by decide +kernel
theorem d_M_forged_12 : decode prog_14_method_90_code 12 = .ok (.iload_n 2, 1) := by decide +kernel
theorem d_M_forged_13 : decode prog_14_method_90_code 13 = .ok (.ifCond .lt 15, 3) := by decide +kernel
theorem d_M_forged_16 : decode prog_14_method_90_code 16 = .ok (.iload_n 2, 1) := by decide +kernel
theorem d_M_forged_17 : decode prog_14_method_90_code 17 = .ok (.aload_n 0, 1) := by decide +kernel
theorem d_M_forged_18 : decode prog_14_method_90_code 18 = .ok (.getfield 295, 3) := by decide +kernel
theorem d_M_forged_21 : decode prog_14_method_90_code 21 = .ok (.if_icmp .gt 7, 3) := by decide +kernel
theorem d_M_forged_24 : decode prog_14_method_90_code 24 = .ok (.iload_n 3, 1) := by decide +kernel
theorem d_M_forged_25 : decode prog_14_method_90_code 25 = .ok (.ifCond .ge 5, 3) := by decide +kernel
theorem d_M_forged_30 : decode prog_14_method_90_code 30 = .ok (.aload_n 0, 1) := by decide +kernel
theorem d_M_forged_31 : decode prog_14_method_90_code 31 = .ok (.invokevirtual 402, 3) := by decide +kernel
theorem d_M_forged_34 : decode prog_14_method_90_code 34 = .ok (.aload_n 0, 1) := by decide +kernel
theorem d_M_forged_35 : decode prog_14_method_90_code 35 = .ok (.iload_n 1, 1) := by decide +kernel
theorem d_M_forged_36 : decode prog_14_method_90_code 36 = .ok (.iload_n 2, 1) := by decide +kernel
theorem d_M_forged_37 : decode prog_14_method_90_code 37 = .ok (.iload_n 3, 1) := by decide +kernel
theorem d_M_forged_38 : decode prog_14_method_90_code 38 = .ok (.invokevirtual 416, 3) := by decide +kernel
theorem d_M_forged_41 : decode prog_14_method_90_code 41 = .ok (.ireturn, 1) := by decide +kernel
theorem d_M_forgers_0 : decode prog_14_method_91_code 0 = .ok (.aload_n 0, 1) := by decide +kernel
theorem d_M_forgers_1 : decode prog_14_method_91_code 1 = .ok (.iconst 0, 1) := by decide +kernel
theorem d_M_forgers_2 : decode prog_14_method_91_code 2 = .ok (.putfield 132, 3) := by decide +kernel
theorem d_M_forgers_5 : decode prog_14_method_91_code 5 = .ok (.iload_n 1, 1) := by decide +kernel
theorem d_M_forgers_6 : decode prog_14_method_91_code 6 = .ok (.ifCond .lt 15, 3) := by decide +kernel
theorem d_M_forgers_21 : decode prog_14_method_91_code 21 = .ok (.iconst (-1), 1) := by decide +kernel
theorem d_M_forgers_22 : decode prog_14_method_91_code 22 = .ok (.ireturn, 1) := by decide +kernel
theorem d_M_forgers_9 : decode prog_14_method_91_code 9 = .ok (.iload_n 1, 1) := by decide +kernel
theorem d_M_forgers_10 : decode prog_14_method_91_code 10 = .ok (.aload_n 0, 1) := by decide +kernel
theorem d_M_forgers_11 : decode prog_14_method_91_code 11 = .ok (.getfield 295, 3) := by decide +kernel
theorem d_M_forgers_14 : decode prog_14_method_91_code 14 = .ok (.if_icmp .gt 7, 3) := by decide +kernel
theorem d_M_forgers_17 : decode prog_14_method_91_code 17 = .ok (.iload_n 2, 1) := by decide +kernel
theorem d_M_forgers_18 : decode prog_14_method_91_code 18 = .ok (.ifCond .ge 5, 3) := by decide +kernel
theorem d_M_forgers_23 : decode prog_14_method_91_code 23 = .ok (.aload_n 0, 1) := by decide +kernel
theorem d_M_forgers_24 : decode prog_14_method_91_code 24 = .ok (.invokevirtual 402, 3) := by decide +kernel
theorem d_M_forgers_27 : decode prog_14_method_91_code 27 = .ok (.iconst 0, 1) := by decide +kernel
theorem d_M_forgers_28 : decode prog_14_method_91_code 28 = .ok (.istore_n 3, 1) := by decide +kernel
theorem d_M_forgers_29 : decode prog_14_method_91_code 29 = .ok (.iconst 0, 1) := by decide +kernel
theorem d_M_forgers_30 : decode prog_14_method_91_code 30 = .ok (.istore 4, 2) := by decide +kernel
theorem d_M_forgers_32 : decode prog_14_method_91_code 32 = .ok (.iload 4, 2) := by decide +kernel
theorem d_M_forgers_34 : decode prog_14_method_91_code 34 = .ok (.bipush 6, 2) := by decide +kernel
theorem d_M_forgers_36 : decode prog_14_method_91_code 36 = .ok (.if_icmp .ge 27, 3) := by decide +kernel
theorem d_M_forgers_39 : decode prog_14_method_91_code 39 = .ok (.aload_n 0, 1) := by decide +kernel
theorem d_M_forgers_40 : decode prog_14_method_91_code 40 = .ok (.iload 4, 2) := by decide +kernel
theorem d_M_forgers_42 : decode prog_14_method_91_code 42 = .ok (.iload_n 1, 1) := by decide +kernel
theorem d_M_forgers_43 : decode prog_14_method_91_code 43 = .ok (.iload_n 2, 1) := by decide +kernel
theorem d_M_forgers_44 : decode prog_14_method_91_code 44 = .ok (.invokevirtual 416, 3) := by decide +kernel
theorem d_M_forgers_47 : decode prog_14_method_91_code 47 = .ok (.ifCond .ne 10, 3) := by decide +kernel
theorem d_M_forgers_57 : decode prog_14_method_91_code 57 = .ok (.iinc 4 1, 3) := by decide +kernel
theorem d_M_forgers_60 : decode prog_14_method_91_code 60 = .ok (.goto (-28), 3) := by decide +kernel
theorem d_M_forgers_50 : decode prog_14_method_91_code 50 = .ok (.iload_n 3, 1) := by decide +kernel
theorem d_M_forgers_51 : decode prog_14_method_91_code 51 = .ok (.iconst 1, 1) := by decide +kernel
theorem d_M_forgers_52 : decode prog_14_method_91_code 52 = .ok (.iload 4, 2) := by decide +kernel
theorem d_M_forgers_54 : decode prog_14_method_91_code 54 = .ok (.ishl, 1) := by decide +kernel
theorem d_M_forgers_55 : decode prog_14_method_91_code 55 = .ok (.ior, 1) := by decide +kernel
theorem d_M_forgers_56 : decode prog_14_method_91_code 56 = .ok (.istore_n 3, 1) := by decide +kernel
theorem d_M_forgers_63 : decode prog_14_method_91_code 63 = .ok (.iload_n 3, 1) := by decide +kernel
theorem d_M_forgers_64 : decode prog_14_method_91_code 64 = .ok (.ireturn, 1) := by decide +kernel
theorem d_M_leads_0 : decode prog_14_method_92_code 0 = .ok (.iconst 1, 1) := by decide +kernel
theorem d_M_leads_1 : decode prog_14_method_92_code 1 = .ok (.iload_n 1, 1) := by decide +kernel
theorem d_M_leads_2 : decode prog_14_method_92_code 2 = .ok (.ishl, 1) := by decide +kernel
theorem d_M_leads_3 : decode prog_14_method_92_code 3 = .ok (.istore_n 3, 1) := by decide +kernel
theorem d_M_leads_4 : decode prog_14_method_92_code 4 = .ok (.iconst 0, 1) := by decide +kernel
theorem d_M_leads_5 : decode prog_14_method_92_code 5 = .ok (.istore 4, 2) := by decide +kernel
theorem d_M_leads_7 : decode prog_14_method_92_code 7 = .ok (.iload 4, 2) := by decide +kernel
theorem d_M_leads_9 : decode prog_14_method_92_code 9 = .ok (.iload_n 3, 1) := by decide +kernel
theorem d_M_leads_10 : decode prog_14_method_92_code 10 = .ok (.if_icmp .eq 91, 3) := by decide +kernel
theorem d_M_leads_13 : decode prog_14_method_92_code 13 = .ok (.iload_n 3, 1) := by decide +kernel
theorem d_M_leads_14 : decode prog_14_method_92_code 14 = .ok (.istore 4, 2) := by decide +kernel
theorem d_M_leads_16 : decode prog_14_method_92_code 16 = .ok (.iconst 0, 1) := by decide +kernel
theorem d_M_leads_17 : decode prog_14_method_92_code 17 = .ok (.istore 5, 2) := by decide +kernel
theorem d_M_leads_19 : decode prog_14_method_92_code 19 = .ok (.iload 5, 2) := by decide +kernel
theorem d_M_leads_21 : decode prog_14_method_92_code 21 = .ok (.aload_n 0, 1) := by decide +kernel
theorem d_M_leads_22 : decode prog_14_method_92_code 22 = .ok (.getfield 277, 3) := by decide +kernel
theorem d_M_leads_25 : decode prog_14_method_92_code 25 = .ok (.if_icmp .ge 28, 3) := by decide +kernel
theorem d_M_leads_28 : decode prog_14_method_92_code 28 = .ok (.aload_n 0, 1) := by decide +kernel
theorem d_M_leads_29 : decode prog_14_method_92_code 29 = .ok (.getfield 69, 3) := by decide +kernel
theorem d_M_leads_32 : decode prog_14_method_92_code 32 = .ok (.iload 5, 2) := by decide +kernel
theorem d_M_leads_34 : decode prog_14_method_92_code 34 = .ok (.iaload, 1) := by decide +kernel
theorem d_M_leads_35 : decode prog_14_method_92_code 35 = .ok (.iload_n 3, 1) := by decide +kernel
theorem d_M_leads_36 : decode prog_14_method_92_code 36 = .ok (.iand, 1) := by decide +kernel
theorem d_M_leads_37 : decode prog_14_method_92_code 37 = .ok (.ifCond .eq 10, 3) := by decide +kernel
theorem d_M_leads_47 : decode prog_14_method_92_code 47 = .ok (.iinc 5 1, 3) := by decide +kernel
theorem d_M_leads_50 : decode prog_14_method_92_code 50 = .ok (.goto (-31), 3) := by decide +kernel
theorem d_M_leads_40 : decode prog_14_method_92_code 40 = .ok (.iload_n 3, 1) := by decide +kernel
theorem d_M_leads_41 : decode prog_14_method_92_code 41 = .ok (.iconst 1, 1) := by decide +kernel
theorem d_M_leads_42 : decode prog_14_method_92_code 42 = .ok (.iload 5, 2) := by decide +kernel
theorem d_M_leads_44 : decode prog_14_method_92_code 44 = .ok (.ishl, 1) := by decide +kernel
theorem d_M_leads_45 : decode prog_14_method_92_code 45 = .ok (.ior, 1) := by decide +kernel
theorem d_M_leads_46 : decode prog_14_method_92_code 46 = .ok (.istore_n 3, 1) := by decide +kernel
theorem d_M_leads_53 : decode prog_14_method_92_code 53 = .ok (.iconst 0, 1) := by decide +kernel
theorem d_M_leads_54 : decode prog_14_method_92_code 54 = .ok (.istore 5, 2) := by decide +kernel
theorem d_M_leads_56 : decode prog_14_method_92_code 56 = .ok (.iload 5, 2) := by decide +kernel
theorem d_M_leads_58 : decode prog_14_method_92_code 58 = .ok (.aload_n 0, 1) := by decide +kernel
theorem d_M_leads_59 : decode prog_14_method_92_code 59 = .ok (.getfield 419, 3) := by decide +kernel
theorem d_M_leads_62 : decode prog_14_method_92_code 62 = .ok (.if_icmp .ge 36, 3) := by decide +kernel
theorem d_M_leads_65 : decode prog_14_method_92_code 65 = .ok (.iload_n 3, 1) := by decide +kernel
theorem d_M_leads_66 : decode prog_14_method_92_code 66 = .ok (.aload_n 0, 1) := by decide +kernel
theorem d_M_leads_67 : decode prog_14_method_92_code 67 = .ok (.getfield 117, 3) := by decide +kernel
theorem d_M_leads_70 : decode prog_14_method_92_code 70 = .ok (.iload 5, 2) := by decide +kernel
theorem d_M_leads_72 : decode prog_14_method_92_code 72 = .ok (.iaload, 1) := by decide +kernel
theorem d_M_leads_73 : decode prog_14_method_92_code 73 = .ok (.ishr, 1) := by decide +kernel
theorem d_M_leads_74 : decode prog_14_method_92_code 74 = .ok (.iconst 1, 1) := by decide +kernel
theorem d_M_leads_75 : decode prog_14_method_92_code 75 = .ok (.iand, 1) := by decide +kernel
theorem d_M_leads_76 : decode prog_14_method_92_code 76 = .ok (.iconst 1, 1) := by decide +kernel
theorem d_M_leads_77 : decode prog_14_method_92_code 77 = .ok (.if_icmp .ne 15, 3) := by decide +kernel
theorem d_M_leads_92 : decode prog_14_method_92_code 92 = .ok (.iinc 5 1, 3) := by decide +kernel
theorem d_M_leads_95 : decode prog_14_method_92_code 95 = .ok (.goto (-39), 3) := by decide +kernel
theorem d_M_leads_80 : decode prog_14_method_92_code 80 = .ok (.iload_n 3, 1) := by decide +kernel
theorem d_M_leads_81 : decode prog_14_method_92_code 81 = .ok (.iconst 1, 1) := by decide +kernel
theorem d_M_leads_82 : decode prog_14_method_92_code 82 = .ok (.aload_n 0, 1) := by decide +kernel
theorem d_M_leads_83 : decode prog_14_method_92_code 83 = .ok (.getfield 120, 3) := by decide +kernel
theorem d_M_leads_86 : decode prog_14_method_92_code 86 = .ok (.iload 5, 2) := by decide +kernel
theorem d_M_leads_88 : decode prog_14_method_92_code 88 = .ok (.iaload, 1) := by decide +kernel
theorem d_M_leads_89 : decode prog_14_method_92_code 89 = .ok (.ishl, 1) := by decide +kernel
theorem d_M_leads_90 : decode prog_14_method_92_code 90 = .ok (.ior, 1) := by decide +kernel
theorem d_M_leads_91 : decode prog_14_method_92_code 91 = .ok (.istore_n 3, 1) := by decide +kernel
theorem d_M_leads_98 : decode prog_14_method_92_code 98 = .ok (.goto (-91), 3) := by decide +kernel
theorem d_M_leads_101 : decode prog_14_method_92_code 101 = .ok (.iload_n 3, 1) := by decide +kernel
theorem d_M_leads_102 : decode prog_14_method_92_code 102 = .ok (.iload_n 2, 1) := by decide +kernel
theorem d_M_leads_103 : decode prog_14_method_92_code 103 = .ok (.ishr, 1) := by decide +kernel
theorem d_M_leads_104 : decode prog_14_method_92_code 104 = .ok (.iconst 1, 1) := by decide +kernel
theorem d_M_leads_105 : decode prog_14_method_92_code 105 = .ok (.iand, 1) := by decide +kernel
theorem d_M_leads_106 : decode prog_14_method_92_code 106 = .ok (.iconst 1, 1) := by decide +kernel
theorem d_M_leads_107 : decode prog_14_method_92_code 107 = .ok (.if_icmp .ne 7, 3) := by decide +kernel
theorem d_M_leads_114 : decode prog_14_method_92_code 114 = .ok (.iconst 0, 1) := by decide +kernel
theorem d_M_leads_115 : decode prog_14_method_92_code 115 = .ok (.ireturn, 1) := by decide +kernel
theorem d_M_leads_110 : decode prog_14_method_92_code 110 = .ok (.iconst 1, 1) := by decide +kernel
theorem d_M_leads_111 : decode prog_14_method_92_code 111 = .ok (.goto 4, 3) := by decide +kernel
theorem d_M_ahead_0 : decode prog_14_method_93_code 0 = .ok (.aload_n 0, 1) := by decide +kernel
theorem d_M_ahead_1 : decode prog_14_method_93_code 1 = .ok (.iconst 0, 1) := by decide +kernel
theorem d_M_ahead_2 : decode prog_14_method_93_code 2 = .ok (.putfield 132, 3) := by decide +kernel
theorem d_M_ahead_5 : decode prog_14_method_93_code 5 = .ok (.aload_n 0, 1) := by decide +kernel
theorem d_M_ahead_6 : decode prog_14_method_93_code 6 = .ok (.iload_n 1, 1) := by decide +kernel
theorem d_M_ahead_7 : decode prog_14_method_93_code 7 = .ok (.invokevirtual 309, 3) := by decide +kernel
theorem d_M_ahead_10 : decode prog_14_method_93_code 10 = .ok (.ifCond .eq 34, 3) := by decide +kernel
theorem d_M_ahead_44 : decode prog_14_method_93_code 44 = .ok (.iconst (-1), 1) := by decide +kernel
theorem d_M_ahead_45 : decode prog_14_method_93_code 45 = .ok (.ireturn, 1) := by decide +kernel
theorem d_M_ahead_13 : decode prog_14_method_93_code 13 = .ok (.aload_n 0, 1) := by decide +kernel
theorem d_M_ahead_14 : decode prog_14_method_93_code 14 = .ok (.iload_n 2, 1) := by decide +kernel
theorem d_M_ahead_15 : decode prog_14_method_93_code 15 = .ok (.invokevirtual 309, 3) := by decide +kernel
theorem d_M_ahead_18 : decode prog_14_method_93_code 18 = .ok (.ifCond .eq 26, 3) := by decide +kernel
theorem d_M_ahead_21 : decode prog_14_method_93_code 21 = .ok (.iload_n 1, 1) := by decide +kernel
theorem d_M_ahead_22 : decode prog_14_method_93_code 22 = .ok (.iload_n 2, 1) := by decide +kernel
theorem d_M_ahead_23 : decode prog_14_method_93_code 23 = .ok (.if_icmp .eq 21, 3) := by decide +kernel
theorem d_M_ahead_26 : decode prog_14_method_93_code 26 = .ok (.aload_n 0, 1) := by decide +kernel
theorem d_M_ahead_27 : decode prog_14_method_93_code 27 = .ok (.getfield 419, 3) := by decide +kernel
theorem d_M_ahead_30 : decode prog_14_method_93_code 30 = .ok (.bipush 12, 2) := by decide +kernel
theorem d_M_ahead_32 : decode prog_14_method_93_code 32 = .ok (.if_icmp .eq 12, 3) := by decide +kernel
theorem d_M_ahead_35 : decode prog_14_method_93_code 35 = .ok (.aload_n 0, 1) := by decide +kernel
theorem d_M_ahead_36 : decode prog_14_method_93_code 36 = .ok (.iload_n 2, 1) := by decide +kernel
theorem d_M_ahead_37 : decode prog_14_method_93_code 37 = .ok (.iload_n 1, 1) := by decide +kernel
theorem d_M_ahead_38 : decode prog_14_method_93_code 38 = .ok (.invokevirtual 422, 3) := by decide +kernel
theorem d_M_ahead_41 : decode prog_14_method_93_code 41 = .ok (.ifCond .eq 5, 3) := by decide +kernel
theorem d_M_ahead_46 : decode prog_14_method_93_code 46 = .ok (.aload_n 0, 1) := by decide +kernel
theorem d_M_ahead_47 : decode prog_14_method_93_code 47 = .ok (.getfield 117, 3) := by decide +kernel
theorem d_M_ahead_50 : decode prog_14_method_93_code 50 = .ok (.aload_n 0, 1) := by decide +kernel
theorem d_M_ahead_51 : decode prog_14_method_93_code 51 = .ok (.getfield 419, 3) := by decide +kernel
theorem d_M_ahead_54 : decode prog_14_method_93_code 54 = .ok (.iload_n 1, 1) := by decide +kernel
theorem d_M_ahead_55 : decode prog_14_method_93_code 55 = .ok (.iastore, 1) := by decide +kernel
theorem d_M_ahead_56 : decode prog_14_method_93_code 56 = .ok (.aload_n 0, 1) := by decide +kernel
theorem d_M_ahead_57 : decode prog_14_method_93_code 57 = .ok (.getfield 120, 3) := by decide +kernel
theorem d_M_ahead_60 : decode prog_14_method_93_code 60 = .ok (.aload_n 0, 1) := by decide +kernel
theorem d_M_ahead_61 : decode prog_14_method_93_code 61 = .ok (.getfield 419, 3) := by decide +kernel
theorem d_M_ahead_64 : decode prog_14_method_93_code 64 = .ok (.iload_n 2, 1) := by decide +kernel
theorem d_M_ahead_65 : decode prog_14_method_93_code 65 = .ok (.iastore, 1) := by decide +kernel
theorem d_M_ahead_66 : decode prog_14_method_93_code 66 = .ok (.aload_n 0, 1) := by decide +kernel
theorem d_M_ahead_67 : decode prog_14_method_93_code 67 = .ok (.dup, 1) := by decide +kernel
theorem d_M_ahead_68 : decode prog_14_method_93_code 68 = .ok (.getfield 419, 3) := by decide +kernel
theorem d_M_ahead_71 : decode prog_14_method_93_code 71 = .ok (.iconst 1, 1) := by decide +kernel
theorem d_M_ahead_72 : decode prog_14_method_93_code 72 = .ok (.iadd, 1) := by decide +kernel
theorem d_M_ahead_73 : decode prog_14_method_93_code 73 = .ok (.putfield 419, 3) := by decide +kernel
theorem d_M_ahead_76 : decode prog_14_method_93_code 76 = .ok (.aload_n 0, 1) := by decide +kernel
theorem d_M_ahead_77 : decode prog_14_method_93_code 77 = .ok (.getfield 419, 3) := by decide +kernel
theorem d_M_ahead_80 : decode prog_14_method_93_code 80 = .ok (.ireturn, 1) := by decide +kernel
theorem d_M_placeOf_0 : decode prog_14_method_95_code 0 = .ok (.iconst 0, 1) := by decide +kernel
theorem d_M_placeOf_1 : decode prog_14_method_95_code 1 = .ok (.istore_n 2, 1) := by decide +kernel
theorem d_M_placeOf_2 : decode prog_14_method_95_code 2 = .ok (.iload_n 2, 1) := by decide +kernel
theorem d_M_placeOf_3 : decode prog_14_method_95_code 3 = .ok (.aload_n 0, 1) := by decide +kernel
theorem d_M_placeOf_4 : decode prog_14_method_95_code 4 = .ok (.getfield 425, 3) := by decide +kernel
theorem d_M_placeOf_7 : decode prog_14_method_95_code 7 = .ok (.if_icmp .ge 21, 3) := by decide +kernel
theorem d_M_placeOf_10 : decode prog_14_method_95_code 10 = .ok (.aload_n 0, 1) := by decide +kernel
theorem d_M_placeOf_11 : decode prog_14_method_95_code 11 = .ok (.getfield 123, 3) := by decide +kernel
theorem d_M_placeOf_14 : decode prog_14_method_95_code 14 = .ok (.iload_n 2, 1) := by decide +kernel
theorem d_M_placeOf_15 : decode prog_14_method_95_code 15 = .ok (.iaload, 1) := by decide +kernel
theorem d_M_placeOf_16 : decode prog_14_method_95_code 16 = .ok (.iload_n 1, 1) := by decide +kernel
theorem d_M_placeOf_17 : decode prog_14_method_95_code 17 = .ok (.if_icmp .ne 5, 3) := by decide +kernel
theorem d_M_placeOf_22 : decode prog_14_method_95_code 22 = .ok (.iinc 2 1, 3) := by decide +kernel
theorem d_M_placeOf_25 : decode prog_14_method_95_code 25 = .ok (.goto (-23), 3) := by decide +kernel
theorem d_M_placeOf_20 : decode prog_14_method_95_code 20 = .ok (.iload_n 2, 1) := by decide +kernel
theorem d_M_placeOf_21 : decode prog_14_method_95_code 21 = .ok (.ireturn, 1) := by decide +kernel
theorem d_M_placeOf_28 : decode prog_14_method_95_code 28 = .ok (.iconst (-1), 1) := by decide +kernel
theorem d_M_placeOf_29 : decode prog_14_method_95_code 29 = .ok (.ireturn, 1) := by decide +kernel
theorem d_M_lay_0 : decode prog_14_method_94_code 0 = .ok (.aload_n 0, 1) := by decide +kernel
theorem d_M_lay_1 : decode prog_14_method_94_code 1 = .ok (.iload_n 1, 1) := by decide +kernel
theorem d_M_lay_2 : decode prog_14_method_94_code 2 = .ok (.invokevirtual 384, 3) := by decide +kernel
theorem d_M_lay_5 : decode prog_14_method_94_code 5 = .ok (.ifCond .eq 12, 3) := by decide +kernel
theorem d_M_lay_17 : decode prog_14_method_94_code 17 = .ok (.iconst 0, 1) := by decide +kernel
theorem d_M_lay_18 : decode prog_14_method_94_code 18 = .ok (.ireturn, 1) := by decide +kernel
theorem d_M_lay_8 : decode prog_14_method_94_code 8 = .ok (.iload_n 1, 1) := by decide +kernel
theorem d_M_lay_9 : decode prog_14_method_94_code 9 = .ok (.invokestatic 306, 3) := by decide +kernel
theorem d_M_lay_12 : decode prog_14_method_94_code 12 = .ok (.bipush 12, 2) := by decide +kernel
theorem d_M_lay_14 : decode prog_14_method_94_code 14 = .ok (.if_icmp .le 5, 3) := by decide +kernel
theorem d_M_lay_19 : decode prog_14_method_94_code 19 = .ok (.aload_n 0, 1) := by decide +kernel
theorem d_M_lay_20 : decode prog_14_method_94_code 20 = .ok (.iconst 0, 1) := by decide +kernel
theorem d_M_lay_21 : decode prog_14_method_94_code 21 = .ok (.putfield 425, 3) := by decide +kernel
theorem d_M_lay_24 : decode prog_14_method_94_code 24 = .ok (.iconst 0, 1) := by decide +kernel
theorem d_M_lay_25 : decode prog_14_method_94_code 25 = .ok (.istore_n 2, 1) := by decide +kernel
theorem d_M_lay_26 : decode prog_14_method_94_code 26 = .ok (.iload_n 2, 1) := by decide +kernel
theorem d_M_lay_27 : decode prog_14_method_94_code 27 = .ok (.aload_n 0, 1) := by decide +kernel
theorem d_M_lay_28 : decode prog_14_method_94_code 28 = .ok (.getfield 277, 3) := by decide +kernel
theorem d_M_lay_31 : decode prog_14_method_94_code 31 = .ok (.if_icmp .ge 40, 3) := by decide +kernel
theorem d_M_lay_34 : decode prog_14_method_94_code 34 = .ok (.iload_n 1, 1) := by decide +kernel
theorem d_M_lay_35 : decode prog_14_method_94_code 35 = .ok (.iload_n 2, 1) := by decide +kernel
theorem d_M_lay_36 : decode prog_14_method_94_code 36 = .ok (.ishr, 1) := by decide +kernel
theorem d_M_lay_37 : decode prog_14_method_94_code 37 = .ok (.iconst 1, 1) := by decide +kernel
theorem d_M_lay_38 : decode prog_14_method_94_code 38 = .ok (.iand, 1) := by decide +kernel
theorem d_M_lay_39 : decode prog_14_method_94_code 39 = .ok (.ifCond .ne 6, 3) := by decide +kernel
theorem d_M_lay_45 : decode prog_14_method_94_code 45 = .ok (.aload_n 0, 1) := by decide +kernel
theorem d_M_lay_46 : decode prog_14_method_94_code 46 = .ok (.getfield 123, 3) := by decide +kernel
theorem d_M_lay_49 : decode prog_14_method_94_code 49 = .ok (.aload_n 0, 1) := by decide +kernel
theorem d_M_lay_50 : decode prog_14_method_94_code 50 = .ok (.getfield 425, 3) := by decide +kernel
theorem d_M_lay_53 : decode prog_14_method_94_code 53 = .ok (.iload_n 2, 1) := by decide +kernel
theorem d_M_lay_54 : decode prog_14_method_94_code 54 = .ok (.iastore, 1) := by decide +kernel
theorem d_M_lay_55 : decode prog_14_method_94_code 55 = .ok (.aload_n 0, 1) := by decide +kernel
theorem d_M_lay_56 : decode prog_14_method_94_code 56 = .ok (.dup, 1) := by decide +kernel
theorem d_M_lay_57 : decode prog_14_method_94_code 57 = .ok (.getfield 425, 3) := by decide +kernel
theorem d_M_lay_60 : decode prog_14_method_94_code 60 = .ok (.iconst 1, 1) := by decide +kernel
theorem d_M_lay_61 : decode prog_14_method_94_code 61 = .ok (.iadd, 1) := by decide +kernel
theorem d_M_lay_62 : decode prog_14_method_94_code 62 = .ok (.putfield 425, 3) := by decide +kernel
theorem d_M_lay_65 : decode prog_14_method_94_code 65 = .ok (.iinc 2 1, 3) := by decide +kernel
theorem d_M_lay_68 : decode prog_14_method_94_code 68 = .ok (.goto (-42), 3) := by decide +kernel
theorem d_M_lay_42 : decode prog_14_method_94_code 42 = .ok (.goto 23, 3) := by decide +kernel
theorem d_M_lay_71 : decode prog_14_method_94_code 71 = .ok (.iconst 0, 1) := by decide +kernel
theorem d_M_lay_72 : decode prog_14_method_94_code 72 = .ok (.istore_n 2, 1) := by decide +kernel
theorem d_M_lay_73 : decode prog_14_method_94_code 73 = .ok (.iload_n 2, 1) := by decide +kernel
theorem d_M_lay_74 : decode prog_14_method_94_code 74 = .ok (.aload_n 0, 1) := by decide +kernel
theorem d_M_lay_75 : decode prog_14_method_94_code 75 = .ok (.getfield 425, 3) := by decide +kernel
theorem d_M_lay_78 : decode prog_14_method_94_code 78 = .ok (.if_icmp .ge 129, 3) := by decide +kernel
theorem d_M_lay_81 : decode prog_14_method_94_code 81 = .ok (.aload_n 0, 1) := by decide +kernel
theorem d_M_lay_82 : decode prog_14_method_94_code 82 = .ok (.getfield 126, 3) := by decide +kernel
theorem d_M_lay_85 : decode prog_14_method_94_code 85 = .ok (.iload_n 2, 1) := by decide +kernel
theorem d_M_lay_86 : decode prog_14_method_94_code 86 = .ok (.iconst 0, 1) := by decide +kernel
theorem d_M_lay_87 : decode prog_14_method_94_code 87 = .ok (.iastore, 1) := by decide +kernel
theorem d_M_lay_88 : decode prog_14_method_94_code 88 = .ok (.iconst 0, 1) := by decide +kernel
theorem d_M_lay_89 : decode prog_14_method_94_code 89 = .ok (.istore_n 3, 1) := by decide +kernel
theorem d_M_lay_90 : decode prog_14_method_94_code 90 = .ok (.iload_n 3, 1) := by decide +kernel
theorem d_M_lay_91 : decode prog_14_method_94_code 91 = .ok (.aload_n 0, 1) := by decide +kernel
theorem d_M_lay_92 : decode prog_14_method_94_code 92 = .ok (.getfield 425, 3) := by decide +kernel
theorem d_M_lay_95 : decode prog_14_method_94_code 95 = .ok (.if_icmp .ge 40, 3) := by decide +kernel
theorem d_M_lay_98 : decode prog_14_method_94_code 98 = .ok (.aload_n 0, 1) := by decide +kernel
theorem d_M_lay_99 : decode prog_14_method_94_code 99 = .ok (.aload_n 0, 1) := by decide +kernel
theorem d_M_lay_100 : decode prog_14_method_94_code 100 = .ok (.getfield 123, 3) := by decide +kernel
theorem d_M_lay_103 : decode prog_14_method_94_code 103 = .ok (.iload_n 3, 1) := by decide +kernel
theorem d_M_lay_104 : decode prog_14_method_94_code 104 = .ok (.iaload, 1) := by decide +kernel
theorem d_M_lay_105 : decode prog_14_method_94_code 105 = .ok (.aload_n 0, 1) := by decide +kernel
theorem d_M_lay_106 : decode prog_14_method_94_code 106 = .ok (.getfield 123, 3) := by decide +kernel
theorem d_M_lay_109 : decode prog_14_method_94_code 109 = .ok (.iload_n 2, 1) := by decide +kernel
theorem d_M_lay_110 : decode prog_14_method_94_code 110 = .ok (.iaload, 1) := by decide +kernel
theorem d_M_lay_111 : decode prog_14_method_94_code 111 = .ok (.invokevirtual 350, 3) := by decide +kernel
theorem d_M_lay_114 : decode prog_14_method_94_code 114 = .ok (.ifCond .eq 15, 3) := by decide +kernel
theorem d_M_lay_129 : decode prog_14_method_94_code 129 = .ok (.iinc 3 1, 3) := by decide +kernel
theorem d_M_lay_132 : decode prog_14_method_94_code 132 = .ok (.goto (-42), 3) := by decide +kernel
theorem d_M_lay_117 : decode prog_14_method_94_code 117 = .ok (.aload_n 0, 1) := by decide +kernel
theorem d_M_lay_118 : decode prog_14_method_94_code 118 = .ok (.getfield 126, 3) := by decide +kernel
theorem d_M_lay_121 : decode prog_14_method_94_code 121 = .ok (.iload_n 2, 1) := by decide +kernel
theorem d_M_lay_122 : decode prog_14_method_94_code 122 = .ok (.dup2, 1) := by decide +kernel
theorem d_M_lay_123 : decode prog_14_method_94_code 123 = .ok (.iaload, 1) := by decide +kernel
theorem d_M_lay_124 : decode prog_14_method_94_code 124 = .ok (.iconst 1, 1) := by decide +kernel
theorem d_M_lay_125 : decode prog_14_method_94_code 125 = .ok (.iload_n 3, 1) := by decide +kernel
theorem d_M_lay_126 : decode prog_14_method_94_code 126 = .ok (.ishl, 1) := by decide +kernel
theorem d_M_lay_127 : decode prog_14_method_94_code 127 = .ok (.ior, 1) := by decide +kernel
theorem d_M_lay_128 : decode prog_14_method_94_code 128 = .ok (.iastore, 1) := by decide +kernel
theorem d_M_lay_135 : decode prog_14_method_94_code 135 = .ok (.iconst 0, 1) := by decide +kernel
theorem d_M_lay_136 : decode prog_14_method_94_code 136 = .ok (.istore_n 3, 1) := by decide +kernel
theorem d_M_lay_137 : decode prog_14_method_94_code 137 = .ok (.iload_n 3, 1) := by decide +kernel
theorem d_M_lay_138 : decode prog_14_method_94_code 138 = .ok (.aload_n 0, 1) := by decide +kernel
theorem d_M_lay_139 : decode prog_14_method_94_code 139 = .ok (.getfield 419, 3) := by decide +kernel
theorem d_M_lay_142 : decode prog_14_method_94_code 142 = .ok (.if_icmp .ge 59, 3) := by decide +kernel
theorem d_M_lay_145 : decode prog_14_method_94_code 145 = .ok (.aload_n 0, 1) := by decide +kernel
theorem d_M_lay_146 : decode prog_14_method_94_code 146 = .ok (.getfield 120, 3) := by decide +kernel
theorem d_M_lay_149 : decode prog_14_method_94_code 149 = .ok (.iload_n 3, 1) := by decide +kernel
theorem d_M_lay_150 : decode prog_14_method_94_code 150 = .ok (.iaload, 1) := by decide +kernel
theorem d_M_lay_151 : decode prog_14_method_94_code 151 = .ok (.aload_n 0, 1) := by decide +kernel
theorem d_M_lay_152 : decode prog_14_method_94_code 152 = .ok (.getfield 123, 3) := by decide +kernel
theorem d_M_lay_155 : decode prog_14_method_94_code 155 = .ok (.iload_n 2, 1) := by decide +kernel
theorem d_M_lay_156 : decode prog_14_method_94_code 156 = .ok (.iaload, 1) := by decide +kernel
theorem d_M_lay_157 : decode prog_14_method_94_code 157 = .ok (.if_icmp .ne 38, 3) := by decide +kernel
theorem d_M_lay_195 : decode prog_14_method_94_code 195 = .ok (.iinc 3 1, 3) := by decide +kernel
theorem d_M_lay_198 : decode prog_14_method_94_code 198 = .ok (.goto (-61), 3) := by decide +kernel
theorem d_M_lay_160 : decode prog_14_method_94_code 160 = .ok (.aload_n 0, 1) := by decide +kernel
theorem d_M_lay_161 : decode prog_14_method_94_code 161 = .ok (.aload_n 0, 1) := by decide +kernel
theorem d_M_lay_162 : decode prog_14_method_94_code 162 = .ok (.getfield 117, 3) := by decide +kernel
theorem d_M_lay_165 : decode prog_14_method_94_code 165 = .ok (.iload_n 3, 1) := by decide +kernel
theorem d_M_lay_166 : decode prog_14_method_94_code 166 = .ok (.iaload, 1) := by decide +kernel
theorem d_M_lay_167 : decode prog_14_method_94_code 167 = .ok (.invokevirtual 428, 3) := by decide +kernel
theorem d_M_lay_170 : decode prog_14_method_94_code 170 = .ok (.iconst (-1), 1) := by decide +kernel
theorem d_M_lay_171 : decode prog_14_method_94_code 171 = .ok (.if_icmp .eq 24, 3) := by decide +kernel
theorem d_M_lay_174 : decode prog_14_method_94_code 174 = .ok (.aload_n 0, 1) := by decide +kernel
theorem d_M_lay_175 : decode prog_14_method_94_code 175 = .ok (.getfield 126, 3) := by decide +kernel
theorem d_M_lay_178 : decode prog_14_method_94_code 178 = .ok (.iload_n 2, 1) := by decide +kernel
theorem d_M_lay_179 : decode prog_14_method_94_code 179 = .ok (.dup2, 1) := by decide +kernel
theorem d_M_lay_180 : decode prog_14_method_94_code 180 = .ok (.iaload, 1) := by decide +kernel
theorem d_M_lay_181 : decode prog_14_method_94_code 181 = .ok (.iconst 1, 1) := by decide +kernel
theorem d_M_lay_182 : decode prog_14_method_94_code 182 = .ok (.aload_n 0, 1) := by decide +kernel
theorem d_M_lay_183 : decode prog_14_method_94_code 183 = .ok (.aload_n 0, 1) := by decide +kernel
theorem d_M_lay_184 : decode prog_14_method_94_code 184 = .ok (.getfield 117, 3) := by decide +kernel
theorem d_M_lay_187 : decode prog_14_method_94_code 187 = .ok (.iload_n 3, 1) := by decide +kernel
theorem d_M_lay_188 : decode prog_14_method_94_code 188 = .ok (.iaload, 1) := by decide +kernel
theorem d_M_lay_189 : decode prog_14_method_94_code 189 = .ok (.invokevirtual 428, 3) := by decide +kernel
theorem d_M_lay_192 : decode prog_14_method_94_code 192 = .ok (.ishl, 1) := by decide +kernel
theorem d_M_lay_193 : decode prog_14_method_94_code 193 = .ok (.ior, 1) := by decide +kernel
theorem d_M_lay_194 : decode prog_14_method_94_code 194 = .ok (.iastore, 1) := by decide +kernel
theorem d_M_lay_201 : decode prog_14_method_94_code 201 = .ok (.iinc 2 1, 3) := by decide +kernel
theorem d_M_lay_204 : decode prog_14_method_94_code 204 = .ok (.goto (-131), 3) := by decide +kernel
theorem d_M_lay_207 : decode prog_14_method_94_code 207 = .ok (.iconst 1, 1) := by decide +kernel
theorem d_M_lay_208 : decode prog_14_method_94_code 208 = .ok (.ireturn, 1) := by decide +kernel
theorem d_M_countOrders_0 : decode prog_14_method_96_code 0 = .ok (.iconst 1, 1) := by decide +kernel
theorem d_M_countOrders_1 : decode prog_14_method_96_code 1 = .ok (.aload_n 0, 1) := by decide +kernel
theorem d_M_countOrders_2 : decode prog_14_method_96_code 2 = .ok (.getfield 425, 3) := by decide +kernel
theorem d_M_countOrders_5 : decode prog_14_method_96_code 5 = .ok (.ishl, 1) := by decide +kernel
theorem d_M_countOrders_6 : decode prog_14_method_96_code 6 = .ok (.iconst 1, 1) := by decide +kernel
theorem d_M_countOrders_7 : decode prog_14_method_96_code 7 = .ok (.isub, 1) := by decide +kernel
theorem d_M_countOrders_8 : decode prog_14_method_96_code 8 = .ok (.istore_n 1, 1) := by decide +kernel
theorem d_M_countOrders_9 : decode prog_14_method_96_code 9 = .ok (.aload_n 0, 1) := by decide +kernel
theorem d_M_countOrders_10 : decode prog_14_method_96_code 10 = .ok (.getfield 129, 3) := by decide +kernel
theorem d_M_countOrders_13 : decode prog_14_method_96_code 13 = .ok (.iload_n 1, 1) := by decide +kernel
theorem d_M_countOrders_14 : decode prog_14_method_96_code 14 = .ok (.iconst 1, 1) := by decide +kernel
theorem d_M_countOrders_15 : decode prog_14_method_96_code 15 = .ok (.iastore, 1) := by decide +kernel
theorem d_M_countOrders_16 : decode prog_14_method_96_code 16 = .ok (.iload_n 1, 1) := by decide +kernel
theorem d_M_countOrders_17 : decode prog_14_method_96_code 17 = .ok (.iconst 1, 1) := by decide +kernel
theorem d_M_countOrders_18 : decode prog_14_method_96_code 18 = .ok (.isub, 1) := by decide +kernel
theorem d_M_countOrders_19 : decode prog_14_method_96_code 19 = .ok (.istore_n 2, 1) := by decide +kernel
theorem d_M_countOrders_20 : decode prog_14_method_96_code 20 = .ok (.iload_n 2, 1) := by decide +kernel
theorem d_M_countOrders_21 : decode prog_14_method_96_code 21 = .ok (.ifCond .lt 72, 3) := by decide +kernel
theorem d_M_countOrders_24 : decode prog_14_method_96_code 24 = .ok (.aload_n 0, 1) := by decide +kernel
theorem d_M_countOrders_25 : decode prog_14_method_96_code 25 = .ok (.getfield 129, 3) := by decide +kernel
theorem d_M_countOrders_28 : decode prog_14_method_96_code 28 = .ok (.iload_n 2, 1) := by decide +kernel
theorem d_M_countOrders_29 : decode prog_14_method_96_code 29 = .ok (.iconst 0, 1) := by decide +kernel
theorem d_M_countOrders_30 : decode prog_14_method_96_code 30 = .ok (.iastore, 1) := by decide +kernel
theorem d_M_countOrders_31 : decode prog_14_method_96_code 31 = .ok (.iconst 0, 1) := by decide +kernel
theorem d_M_countOrders_32 : decode prog_14_method_96_code 32 = .ok (.istore_n 3, 1) := by decide +kernel
theorem d_M_countOrders_33 : decode prog_14_method_96_code 33 = .ok (.iload_n 3, 1) := by decide +kernel
theorem d_M_countOrders_34 : decode prog_14_method_96_code 34 = .ok (.aload_n 0, 1) := by decide +kernel
theorem d_M_countOrders_35 : decode prog_14_method_96_code 35 = .ok (.getfield 425, 3) := by decide +kernel
theorem d_M_countOrders_38 : decode prog_14_method_96_code 38 = .ok (.if_icmp .ge 49, 3) := by decide +kernel
theorem d_M_countOrders_41 : decode prog_14_method_96_code 41 = .ok (.iload_n 2, 1) := by decide +kernel
theorem d_M_countOrders_42 : decode prog_14_method_96_code 42 = .ok (.iload_n 3, 1) := by decide +kernel
theorem d_M_countOrders_43 : decode prog_14_method_96_code 43 = .ok (.ishr, 1) := by decide +kernel
theorem d_M_countOrders_44 : decode prog_14_method_96_code 44 = .ok (.iconst 1, 1) := by decide +kernel
theorem d_M_countOrders_45 : decode prog_14_method_96_code 45 = .ok (.iand, 1) := by decide +kernel
theorem d_M_countOrders_46 : decode prog_14_method_96_code 46 = .ok (.ifCond .ne 35, 3) := by decide +kernel
theorem d_M_countOrders_81 : decode prog_14_method_96_code 81 = .ok (.iinc 3 1, 3) := by decide +kernel
theorem d_M_countOrders_84 : decode prog_14_method_96_code 84 = .ok (.goto (-51), 3) := by decide +kernel
theorem d_M_countOrders_49 : decode prog_14_method_96_code 49 = .ok (.aload_n 0, 1) := by decide +kernel
theorem d_M_countOrders_50 : decode prog_14_method_96_code 50 = .ok (.getfield 126, 3) := by decide +kernel
theorem d_M_countOrders_53 : decode prog_14_method_96_code 53 = .ok (.iload_n 3, 1) := by decide +kernel
theorem d_M_countOrders_54 : decode prog_14_method_96_code 54 = .ok (.iaload, 1) := by decide +kernel
theorem d_M_countOrders_55 : decode prog_14_method_96_code 55 = .ok (.iload_n 2, 1) := by decide +kernel
theorem d_M_countOrders_56 : decode prog_14_method_96_code 56 = .ok (.iconst (-1), 1) := by decide +kernel
theorem d_M_countOrders_57 : decode prog_14_method_96_code 57 = .ok (.ixor, 1) := by decide +kernel
theorem d_M_countOrders_58 : decode prog_14_method_96_code 58 = .ok (.iand, 1) := by decide +kernel
theorem d_M_countOrders_59 : decode prog_14_method_96_code 59 = .ok (.ifCond .ne 22, 3) := by decide +kernel
theorem d_M_countOrders_62 : decode prog_14_method_96_code 62 = .ok (.aload_n 0, 1) := by decide +kernel
theorem d_M_countOrders_63 : decode prog_14_method_96_code 63 = .ok (.getfield 129, 3) := by decide +kernel
theorem d_M_countOrders_66 : decode prog_14_method_96_code 66 = .ok (.iload_n 2, 1) := by decide +kernel
theorem d_M_countOrders_67 : decode prog_14_method_96_code 67 = .ok (.dup2, 1) := by decide +kernel
theorem d_M_countOrders_68 : decode prog_14_method_96_code 68 = .ok (.iaload, 1) := by decide +kernel
theorem d_M_countOrders_69 : decode prog_14_method_96_code 69 = .ok (.aload_n 0, 1) := by decide +kernel
theorem d_M_countOrders_70 : decode prog_14_method_96_code 70 = .ok (.getfield 129, 3) := by decide +kernel
theorem d_M_countOrders_73 : decode prog_14_method_96_code 73 = .ok (.iload_n 2, 1) := by decide +kernel
theorem d_M_countOrders_74 : decode prog_14_method_96_code 74 = .ok (.iconst 1, 1) := by decide +kernel
theorem d_M_countOrders_75 : decode prog_14_method_96_code 75 = .ok (.iload_n 3, 1) := by decide +kernel
theorem d_M_countOrders_76 : decode prog_14_method_96_code 76 = .ok (.ishl, 1) := by decide +kernel
theorem d_M_countOrders_77 : decode prog_14_method_96_code 77 = .ok (.ior, 1) := by decide +kernel
theorem d_M_countOrders_78 : decode prog_14_method_96_code 78 = .ok (.iaload, 1) := by decide +kernel
theorem d_M_countOrders_79 : decode prog_14_method_96_code 79 = .ok (.iadd, 1) := by decide +kernel
theorem d_M_countOrders_80 : decode prog_14_method_96_code 80 = .ok (.iastore, 1) := by decide +kernel
theorem d_M_countOrders_87 : decode prog_14_method_96_code 87 = .ok (.iinc 2 (-1), 3) := by decide +kernel
theorem d_M_countOrders_90 : decode prog_14_method_96_code 90 = .ok (.goto (-70), 3) := by decide +kernel
theorem d_M_countOrders_93 : decode prog_14_method_96_code 93 = .ok (.aload_n 0, 1) := by decide +kernel
theorem d_M_countOrders_94 : decode prog_14_method_96_code 94 = .ok (.getfield 129, 3) := by decide +kernel
theorem d_M_countOrders_97 : decode prog_14_method_96_code 97 = .ok (.iconst 0, 1) := by decide +kernel
theorem d_M_countOrders_98 : decode prog_14_method_96_code 98 = .ok (.iaload, 1) := by decide +kernel
theorem d_M_countOrders_99 : decode prog_14_method_96_code 99 = .ok (.ireturn, 1) := by decide +kernel
theorem d_M_orders_0 : decode prog_14_method_97_code 0 = .ok (.aload_n 0, 1) := by decide +kernel
theorem d_M_orders_1 : decode prog_14_method_97_code 1 = .ok (.iconst 0, 1) := by decide +kernel
theorem d_M_orders_2 : decode prog_14_method_97_code 2 = .ok (.putfield 132, 3) := by decide +kernel
theorem d_M_orders_5 : decode prog_14_method_97_code 5 = .ok (.aload_n 0, 1) := by decide +kernel
theorem d_M_orders_6 : decode prog_14_method_97_code 6 = .ok (.iload_n 1, 1) := by decide +kernel
theorem d_M_orders_7 : decode prog_14_method_97_code 7 = .ok (.invokevirtual 431, 3) := by decide +kernel
theorem d_M_orders_10 : decode prog_14_method_97_code 10 = .ok (.ifCond .eq 10, 3) := by decide +kernel
theorem d_M_orders_20 : decode prog_14_method_97_code 20 = .ok (.iconst (-1), 1) := by decide +kernel
theorem d_M_orders_21 : decode prog_14_method_97_code 21 = .ok (.ireturn, 1) := by decide +kernel
theorem d_M_orders_13 : decode prog_14_method_97_code 13 = .ok (.aload_n 0, 1) := by decide +kernel
theorem d_M_orders_14 : decode prog_14_method_97_code 14 = .ok (.invokevirtual 434, 3) := by decide +kernel
theorem d_M_orders_17 : decode prog_14_method_97_code 17 = .ok (.goto 4, 3) := by decide +kernel
theorem d_M_order_0 : decode prog_14_method_98_code 0 = .ok (.aload_n 0, 1) := by decide +kernel
theorem d_M_order_1 : decode prog_14_method_98_code 1 = .ok (.iconst 0, 1) := by decide +kernel
theorem d_M_order_2 : decode prog_14_method_98_code 2 = .ok (.putfield 132, 3) := by decide +kernel
theorem d_M_order_5 : decode prog_14_method_98_code 5 = .ok (.aload_n 0, 1) := by decide +kernel
theorem d_M_order_6 : decode prog_14_method_98_code 6 = .ok (.iload_n 1, 1) := by decide +kernel
theorem d_M_order_7 : decode prog_14_method_98_code 7 = .ok (.invokevirtual 431, 3) := by decide +kernel
theorem d_M_order_10 : decode prog_14_method_98_code 10 = .ok (.ifCond .eq 27, 3) := by decide +kernel
theorem d_M_order_37 : decode prog_14_method_98_code 37 = .ok (.iconst (-1), 1) := by decide +kernel
theorem d_M_order_38 : decode prog_14_method_98_code 38 = .ok (.ireturn, 1) := by decide +kernel
theorem d_M_order_13 : decode prog_14_method_98_code 13 = .ok (.iload_n 2, 1) := by decide +kernel
theorem d_M_order_14 : decode prog_14_method_98_code 14 = .ok (.ifCond .lt 23, 3) := by decide +kernel
theorem d_M_order_17 : decode prog_14_method_98_code 17 = .ok (.iload_n 3, 1) := by decide +kernel
theorem d_M_order_18 : decode prog_14_method_98_code 18 = .ok (.ifCond .lt 19, 3) := by decide +kernel
theorem d_M_order_21 : decode prog_14_method_98_code 21 = .ok (.iload_n 3, 1) := by decide +kernel
theorem d_M_order_22 : decode prog_14_method_98_code 22 = .ok (.aload_n 0, 1) := by decide +kernel
theorem d_M_order_23 : decode prog_14_method_98_code 23 = .ok (.getfield 425, 3) := by decide +kernel
theorem d_M_order_26 : decode prog_14_method_98_code 26 = .ok (.if_icmp .ge 11, 3) := by decide +kernel
theorem d_M_order_29 : decode prog_14_method_98_code 29 = .ok (.iload_n 2, 1) := by decide +kernel
theorem d_M_order_30 : decode prog_14_method_98_code 30 = .ok (.aload_n 0, 1) := by decide +kernel
theorem d_M_order_31 : decode prog_14_method_98_code 31 = .ok (.invokevirtual 434, 3) := by decide +kernel
theorem d_M_order_34 : decode prog_14_method_98_code 34 = .ok (.if_icmp .lt 5, 3) := by decide +kernel
theorem d_M_order_39 : decode prog_14_method_98_code 39 = .ok (.iload_n 2, 1) := by decide +kernel
theorem d_M_order_40 : decode prog_14_method_98_code 40 = .ok (.istore 4, 2) := by decide +kernel
theorem d_M_order_42 : decode prog_14_method_98_code 42 = .ok (.iconst 0, 1) := by decide +kernel
theorem d_M_order_43 : decode prog_14_method_98_code 43 = .ok (.istore 5, 2) := by decide +kernel
theorem d_M_order_45 : decode prog_14_method_98_code 45 = .ok (.iconst (-1), 1) := by decide +kernel
theorem d_M_order_46 : decode prog_14_method_98_code 46 = .ok (.istore 6, 2) := by decide +kernel
theorem d_M_order_48 : decode prog_14_method_98_code 48 = .ok (.iconst 0, 1) := by decide +kernel
theorem d_M_order_49 : decode prog_14_method_98_code 49 = .ok (.istore 7, 2) := by decide +kernel
theorem d_M_order_51 : decode prog_14_method_98_code 51 = .ok (.iload 7, 2) := by decide +kernel
theorem d_M_order_53 : decode prog_14_method_98_code 53 = .ok (.iload_n 3, 1) := by decide +kernel
theorem d_M_order_54 : decode prog_14_method_98_code 54 = .ok (.if_icmp .gt 112, 3) := by decide +kernel
theorem d_M_order_57 : decode prog_14_method_98_code 57 = .ok (.iconst 0, 1) := by decide +kernel
theorem d_M_order_58 : decode prog_14_method_98_code 58 = .ok (.istore 6, 2) := by decide +kernel
theorem d_M_order_60 : decode prog_14_method_98_code 60 = .ok (.iload 5, 2) := by decide +kernel
theorem d_M_order_62 : decode prog_14_method_98_code 62 = .ok (.iload 6, 2) := by decide +kernel
theorem d_M_order_64 : decode prog_14_method_98_code 64 = .ok (.ishr, 1) := by decide +kernel
theorem d_M_order_65 : decode prog_14_method_98_code 65 = .ok (.iconst 1, 1) := by decide +kernel
theorem d_M_order_66 : decode prog_14_method_98_code 66 = .ok (.iand, 1) := by decide +kernel
theorem d_M_order_67 : decode prog_14_method_98_code 67 = .ok (.iconst 1, 1) := by decide +kernel
theorem d_M_order_68 : decode prog_14_method_98_code 68 = .ok (.if_icmp .eq 35, 3) := by decide +kernel
theorem d_M_order_103 : decode prog_14_method_98_code 103 = .ok (.iload 5, 2) := by decide +kernel
theorem d_M_order_105 : decode prog_14_method_98_code 105 = .ok (.iload 6, 2) := by decide +kernel
theorem d_M_order_107 : decode prog_14_method_98_code 107 = .ok (.ishr, 1) := by decide +kernel
theorem d_M_order_108 : decode prog_14_method_98_code 108 = .ok (.iconst 1, 1) := by decide +kernel
theorem d_M_order_109 : decode prog_14_method_98_code 109 = .ok (.iand, 1) := by decide +kernel
theorem d_M_order_110 : decode prog_14_method_98_code 110 = .ok (.ifCond .ne 35, 3) := by decide +kernel
theorem d_M_order_145 : decode prog_14_method_98_code 145 = .ok (.iinc 6 1, 3) := by decide +kernel
theorem d_M_order_148 : decode prog_14_method_98_code 148 = .ok (.goto (-88), 3) := by decide +kernel
theorem d_M_order_113 : decode prog_14_method_98_code 113 = .ok (.aload_n 0, 1) := by decide +kernel
theorem d_M_order_114 : decode prog_14_method_98_code 114 = .ok (.getfield 126, 3) := by decide +kernel
theorem d_M_order_117 : decode prog_14_method_98_code 117 = .ok (.iload 6, 2) := by decide +kernel
theorem d_M_order_119 : decode prog_14_method_98_code 119 = .ok (.iaload, 1) := by decide +kernel
theorem d_M_order_120 : decode prog_14_method_98_code 120 = .ok (.iload 5, 2) := by decide +kernel
theorem d_M_order_122 : decode prog_14_method_98_code 122 = .ok (.iconst (-1), 1) := by decide +kernel
theorem d_M_order_123 : decode prog_14_method_98_code 123 = .ok (.ixor, 1) := by decide +kernel
theorem d_M_order_124 : decode prog_14_method_98_code 124 = .ok (.iand, 1) := by decide +kernel
theorem d_M_order_125 : decode prog_14_method_98_code 125 = .ok (.ifCond .ne 20, 3) := by decide +kernel
theorem d_M_order_128 : decode prog_14_method_98_code 128 = .ok (.iload 4, 2) := by decide +kernel
theorem d_M_order_130 : decode prog_14_method_98_code 130 = .ok (.aload_n 0, 1) := by decide +kernel
theorem d_M_order_131 : decode prog_14_method_98_code 131 = .ok (.getfield 129, 3) := by decide +kernel
theorem d_M_order_134 : decode prog_14_method_98_code 134 = .ok (.iload 5, 2) := by decide +kernel
theorem d_M_order_136 : decode prog_14_method_98_code 136 = .ok (.iconst 1, 1) := by decide +kernel
theorem d_M_order_137 : decode prog_14_method_98_code 137 = .ok (.iload 6, 2) := by decide +kernel
theorem d_M_order_139 : decode prog_14_method_98_code 139 = .ok (.ishl, 1) := by decide +kernel
theorem d_M_order_140 : decode prog_14_method_98_code 140 = .ok (.ior, 1) := by decide +kernel
theorem d_M_order_141 : decode prog_14_method_98_code 141 = .ok (.iaload, 1) := by decide +kernel
theorem d_M_order_142 : decode prog_14_method_98_code 142 = .ok (.isub, 1) := by decide +kernel
theorem d_M_order_143 : decode prog_14_method_98_code 143 = .ok (.istore 4, 2) := by decide +kernel
theorem d_M_order_71 : decode prog_14_method_98_code 71 = .ok (.aload_n 0, 1) := by decide +kernel
theorem d_M_order_72 : decode prog_14_method_98_code 72 = .ok (.getfield 126, 3) := by decide +kernel
theorem d_M_order_75 : decode prog_14_method_98_code 75 = .ok (.iload 6, 2) := by decide +kernel
theorem d_M_order_77 : decode prog_14_method_98_code 77 = .ok (.iaload, 1) := by decide +kernel
theorem d_M_order_78 : decode prog_14_method_98_code 78 = .ok (.iload 5, 2) := by decide +kernel
theorem d_M_order_80 : decode prog_14_method_98_code 80 = .ok (.iconst (-1), 1) := by decide +kernel
theorem d_M_order_81 : decode prog_14_method_98_code 81 = .ok (.ixor, 1) := by decide +kernel
theorem d_M_order_82 : decode prog_14_method_98_code 82 = .ok (.iand, 1) := by decide +kernel
theorem d_M_order_83 : decode prog_14_method_98_code 83 = .ok (.ifCond .ne 20, 3) := by decide +kernel
theorem d_M_order_86 : decode prog_14_method_98_code 86 = .ok (.iload 4, 2) := by decide +kernel
theorem d_M_order_88 : decode prog_14_method_98_code 88 = .ok (.aload_n 0, 1) := by decide +kernel
theorem d_M_order_89 : decode prog_14_method_98_code 89 = .ok (.getfield 129, 3) := by decide +kernel
theorem d_M_order_92 : decode prog_14_method_98_code 92 = .ok (.iload 5, 2) := by decide +kernel
theorem d_M_order_94 : decode prog_14_method_98_code 94 = .ok (.iconst 1, 1) := by decide +kernel
theorem d_M_order_95 : decode prog_14_method_98_code 95 = .ok (.iload 6, 2) := by decide +kernel
theorem d_M_order_97 : decode prog_14_method_98_code 97 = .ok (.ishl, 1) := by decide +kernel
theorem d_M_order_98 : decode prog_14_method_98_code 98 = .ok (.ior, 1) := by decide +kernel
theorem d_M_order_99 : decode prog_14_method_98_code 99 = .ok (.iaload, 1) := by decide +kernel
theorem d_M_order_100 : decode prog_14_method_98_code 100 = .ok (.if_icmp .lt 51, 3) := by decide +kernel
theorem d_M_order_151 : decode prog_14_method_98_code 151 = .ok (.iload 5, 2) := by decide +kernel
theorem d_M_order_153 : decode prog_14_method_98_code 153 = .ok (.iconst 1, 1) := by decide +kernel
theorem d_M_order_154 : decode prog_14_method_98_code 154 = .ok (.iload 6, 2) := by decide +kernel
theorem d_M_order_156 : decode prog_14_method_98_code 156 = .ok (.ishl, 1) := by decide +kernel
theorem d_M_order_157 : decode prog_14_method_98_code 157 = .ok (.ior, 1) := by decide +kernel
theorem d_M_order_158 : decode prog_14_method_98_code 158 = .ok (.istore 5, 2) := by decide +kernel
theorem d_M_order_160 : decode prog_14_method_98_code 160 = .ok (.iinc 7 1, 3) := by decide +kernel
theorem d_M_order_163 : decode prog_14_method_98_code 163 = .ok (.goto (-112), 3) := by decide +kernel
theorem d_M_order_166 : decode prog_14_method_98_code 166 = .ok (.aload_n 0, 1) := by decide +kernel
theorem d_M_order_167 : decode prog_14_method_98_code 167 = .ok (.getfield 123, 3) := by decide +kernel
theorem d_M_order_170 : decode prog_14_method_98_code 170 = .ok (.iload 6, 2) := by decide +kernel
theorem d_M_order_172 : decode prog_14_method_98_code 172 = .ok (.iaload, 1) := by decide +kernel
theorem d_M_order_173 : decode prog_14_method_98_code 173 = .ok (.ireturn, 1) := by decide +kernel
theorem d_M_firsts_0 : decode prog_14_method_99_code 0 = .ok (.aload_n 0, 1) := by decide +kernel
theorem d_M_firsts_1 : decode prog_14_method_99_code 1 = .ok (.getfield 126, 3) := by decide +kernel
theorem d_M_firsts_4 : decode prog_14_method_99_code 4 = .ok (.iload_n 2, 1) := by decide +kernel
theorem d_M_firsts_5 : decode prog_14_method_99_code 5 = .ok (.iaload, 1) := by decide +kernel
theorem d_M_firsts_6 : decode prog_14_method_99_code 6 = .ok (.istore_n 3, 1) := by decide +kernel
theorem d_M_firsts_7 : decode prog_14_method_99_code 7 = .ok (.aload_n 0, 1) := by decide +kernel
theorem d_M_firsts_8 : decode prog_14_method_99_code 8 = .ok (.getfield 126, 3) := by decide +kernel
theorem d_M_firsts_11 : decode prog_14_method_99_code 11 = .ok (.iload_n 2, 1) := by decide +kernel
theorem d_M_firsts_12 : decode prog_14_method_99_code 12 = .ok (.dup2, 1) := by decide +kernel
theorem d_M_firsts_13 : decode prog_14_method_99_code 13 = .ok (.iaload, 1) := by decide +kernel
theorem d_M_firsts_14 : decode prog_14_method_99_code 14 = .ok (.iconst 1, 1) := by decide +kernel
theorem d_M_firsts_15 : decode prog_14_method_99_code 15 = .ok (.iload_n 1, 1) := by decide +kernel
theorem d_M_firsts_16 : decode prog_14_method_99_code 16 = .ok (.ishl, 1) := by decide +kernel
theorem d_M_firsts_17 : decode prog_14_method_99_code 17 = .ok (.ior, 1) := by decide +kernel
theorem d_M_firsts_18 : decode prog_14_method_99_code 18 = .ok (.iastore, 1) := by decide +kernel
theorem d_M_firsts_19 : decode prog_14_method_99_code 19 = .ok (.aload_n 0, 1) := by decide +kernel
theorem d_M_firsts_20 : decode prog_14_method_99_code 20 = .ok (.invokevirtual 434, 3) := by decide +kernel
theorem d_M_firsts_23 : decode prog_14_method_99_code 23 = .ok (.istore 4, 2) := by decide +kernel
theorem d_M_firsts_25 : decode prog_14_method_99_code 25 = .ok (.aload_n 0, 1) := by decide +kernel
theorem d_M_firsts_26 : decode prog_14_method_99_code 26 = .ok (.getfield 126, 3) := by decide +kernel
theorem d_M_firsts_29 : decode prog_14_method_99_code 29 = .ok (.iload_n 2, 1) := by decide +kernel
theorem d_M_firsts_30 : decode prog_14_method_99_code 30 = .ok (.iload_n 3, 1) := by decide +kernel
theorem d_M_firsts_31 : decode prog_14_method_99_code 31 = .ok (.iastore, 1) := by decide +kernel
theorem d_M_firsts_32 : decode prog_14_method_99_code 32 = .ok (.iload 4, 2) := by decide +kernel
theorem d_M_firsts_34 : decode prog_14_method_99_code 34 = .ok (.ireturn, 1) := by decide +kernel
theorem d_M_first_0 : decode prog_14_method_100_code 0 = .ok (.aload_n 0, 1) := by decide +kernel
theorem d_M_first_1 : decode prog_14_method_100_code 1 = .ok (.iconst 0, 1) := by decide +kernel
theorem d_M_first_2 : decode prog_14_method_100_code 2 = .ok (.putfield 132, 3) := by decide +kernel
theorem d_M_first_5 : decode prog_14_method_100_code 5 = .ok (.aload_n 0, 1) := by decide +kernel
theorem d_M_first_6 : decode prog_14_method_100_code 6 = .ok (.iload_n 1, 1) := by decide +kernel
theorem d_M_first_7 : decode prog_14_method_100_code 7 = .ok (.invokevirtual 431, 3) := by decide +kernel
theorem d_M_first_10 : decode prog_14_method_100_code 10 = .ok (.ifCond .eq 26, 3) := by decide +kernel
theorem d_M_first_36 : decode prog_14_method_100_code 36 = .ok (.iconst (-1), 1) := by decide +kernel
theorem d_M_first_37 : decode prog_14_method_100_code 37 = .ok (.ireturn, 1) := by decide +kernel
theorem d_M_first_13 : decode prog_14_method_100_code 13 = .ok (.iload_n 2, 1) := by decide +kernel
theorem d_M_first_14 : decode prog_14_method_100_code 14 = .ok (.iload_n 3, 1) := by decide +kernel
theorem d_M_first_15 : decode prog_14_method_100_code 15 = .ok (.if_icmp .eq 21, 3) := by decide +kernel
theorem d_M_first_18 : decode prog_14_method_100_code 18 = .ok (.aload_n 0, 1) := by decide +kernel
theorem d_M_first_19 : decode prog_14_method_100_code 19 = .ok (.iload_n 2, 1) := by decide +kernel
theorem d_M_first_20 : decode prog_14_method_100_code 20 = .ok (.invokevirtual 428, 3) := by decide +kernel
theorem d_M_first_23 : decode prog_14_method_100_code 23 = .ok (.iconst (-1), 1) := by decide +kernel
theorem d_M_first_24 : decode prog_14_method_100_code 24 = .ok (.if_icmp .eq 12, 3) := by decide +kernel
theorem d_M_first_27 : decode prog_14_method_100_code 27 = .ok (.aload_n 0, 1) := by decide +kernel
theorem d_M_first_28 : decode prog_14_method_100_code 28 = .ok (.iload_n 3, 1) := by decide +kernel
theorem d_M_first_29 : decode prog_14_method_100_code 29 = .ok (.invokevirtual 428, 3) := by decide +kernel
theorem d_M_first_32 : decode prog_14_method_100_code 32 = .ok (.iconst (-1), 1) := by decide +kernel
theorem d_M_first_33 : decode prog_14_method_100_code 33 = .ok (.if_icmp .ne 5, 3) := by decide +kernel
theorem d_M_first_38 : decode prog_14_method_100_code 38 = .ok (.aload_n 0, 1) := by decide +kernel
theorem d_M_first_39 : decode prog_14_method_100_code 39 = .ok (.aload_n 0, 1) := by decide +kernel
theorem d_M_first_40 : decode prog_14_method_100_code 40 = .ok (.iload_n 2, 1) := by decide +kernel
theorem d_M_first_41 : decode prog_14_method_100_code 41 = .ok (.invokevirtual 428, 3) := by decide +kernel
theorem d_M_first_44 : decode prog_14_method_100_code 44 = .ok (.aload_n 0, 1) := by decide +kernel
theorem d_M_first_45 : decode prog_14_method_100_code 45 = .ok (.iload_n 3, 1) := by decide +kernel
theorem d_M_first_46 : decode prog_14_method_100_code 46 = .ok (.invokevirtual 428, 3) := by decide +kernel
theorem d_M_first_49 : decode prog_14_method_100_code 49 = .ok (.invokevirtual 437, 3) := by decide +kernel
theorem d_M_first_52 : decode prog_14_method_100_code 52 = .ok (.ireturn, 1) := by decide +kernel
theorem d_M_ask_0 : decode prog_14_method_101_code 0 = .ok (.aload_n 0, 1) := by decide +kernel
theorem d_M_ask_1 : decode prog_14_method_101_code 1 = .ok (.iconst 0, 1) := by decide +kernel
theorem d_M_ask_2 : decode prog_14_method_101_code 2 = .ok (.putfield 132, 3) := by decide +kernel
theorem d_M_ask_5 : decode prog_14_method_101_code 5 = .ok (.aload_n 0, 1) := by decide +kernel
theorem d_M_ask_6 : decode prog_14_method_101_code 6 = .ok (.iload_n 1, 1) := by decide +kernel
theorem d_M_ask_7 : decode prog_14_method_101_code 7 = .ok (.invokevirtual 431, 3) := by decide +kernel
theorem d_M_ask_10 : decode prog_14_method_101_code 10 = .ok (.ifCond .eq 11, 3) := by decide +kernel
theorem d_M_ask_21 : decode prog_14_method_101_code 21 = .ok (.iconst (-1), 1) := by decide +kernel
theorem d_M_ask_22 : decode prog_14_method_101_code 22 = .ok (.ireturn, 1) := by decide +kernel
theorem d_M_ask_13 : decode prog_14_method_101_code 13 = .ok (.aload_n 0, 1) := by decide +kernel
theorem d_M_ask_14 : decode prog_14_method_101_code 14 = .ok (.getfield 425, 3) := by decide +kernel
theorem d_M_ask_17 : decode prog_14_method_101_code 17 = .ok (.iconst 2, 1) := by decide +kernel
theorem d_M_ask_18 : decode prog_14_method_101_code 18 = .ok (.if_icmp .ge 5, 3) := by decide +kernel
theorem d_M_ask_23 : decode prog_14_method_101_code 23 = .ok (.aload_n 0, 1) := by decide +kernel
theorem d_M_ask_24 : decode prog_14_method_101_code 24 = .ok (.invokevirtual 434, 3) := by decide +kernel
theorem d_M_ask_27 : decode prog_14_method_101_code 27 = .ok (.istore_n 2, 1) := by decide +kernel
theorem d_M_ask_28 : decode prog_14_method_101_code 28 = .ok (.iconst (-1), 1) := by decide +kernel
theorem d_M_ask_29 : decode prog_14_method_101_code 29 = .ok (.istore_n 3, 1) := by decide +kernel
theorem d_M_ask_30 : decode prog_14_method_101_code 30 = .ok (.iconst (-1), 1) := by decide +kernel
theorem d_M_ask_31 : decode prog_14_method_101_code 31 = .ok (.istore 4, 2) := by decide +kernel
theorem d_M_ask_33 : decode prog_14_method_101_code 33 = .ok (.iconst 0, 1) := by decide +kernel
theorem d_M_ask_34 : decode prog_14_method_101_code 34 = .ok (.istore 5, 2) := by decide +kernel
theorem d_M_ask_36 : decode prog_14_method_101_code 36 = .ok (.iload 5, 2) := by decide +kernel
theorem d_M_ask_38 : decode prog_14_method_101_code 38 = .ok (.aload_n 0, 1) := by decide +kernel
theorem d_M_ask_39 : decode prog_14_method_101_code 39 = .ok (.getfield 425, 3) := by decide +kernel
theorem d_M_ask_42 : decode prog_14_method_101_code 42 = .ok (.if_icmp .ge 84, 3) := by decide +kernel
theorem d_M_ask_45 : decode prog_14_method_101_code 45 = .ok (.iload 5, 2) := by decide +kernel
theorem d_M_ask_47 : decode prog_14_method_101_code 47 = .ok (.iconst 1, 1) := by decide +kernel
theorem d_M_ask_48 : decode prog_14_method_101_code 48 = .ok (.iadd, 1) := by decide +kernel
theorem d_M_ask_49 : decode prog_14_method_101_code 49 = .ok (.istore 6, 2) := by decide +kernel
theorem d_M_ask_51 : decode prog_14_method_101_code 51 = .ok (.iload 6, 2) := by decide +kernel
theorem d_M_ask_53 : decode prog_14_method_101_code 53 = .ok (.aload_n 0, 1) := by decide +kernel
theorem d_M_ask_54 : decode prog_14_method_101_code 54 = .ok (.getfield 425, 3) := by decide +kernel
theorem d_M_ask_57 : decode prog_14_method_101_code 57 = .ok (.if_icmp .ge 63, 3) := by decide +kernel
theorem d_M_ask_60 : decode prog_14_method_101_code 60 = .ok (.aload_n 0, 1) := by decide +kernel
theorem d_M_ask_61 : decode prog_14_method_101_code 61 = .ok (.iload 5, 2) := by decide +kernel
theorem d_M_ask_63 : decode prog_14_method_101_code 63 = .ok (.iload 6, 2) := by decide +kernel
theorem d_M_ask_65 : decode prog_14_method_101_code 65 = .ok (.invokevirtual 437, 3) := by decide +kernel
theorem d_M_ask_68 : decode prog_14_method_101_code 68 = .ok (.istore 7, 2) := by decide +kernel
theorem d_M_ask_70 : decode prog_14_method_101_code 70 = .ok (.iload 7, 2) := by decide +kernel
theorem d_M_ask_72 : decode prog_14_method_101_code 72 = .ok (.iload_n 2, 1) := by decide +kernel
theorem d_M_ask_73 : decode prog_14_method_101_code 73 = .ok (.iload 7, 2) := by decide +kernel
theorem d_M_ask_75 : decode prog_14_method_101_code 75 = .ok (.isub, 1) := by decide +kernel
theorem d_M_ask_76 : decode prog_14_method_101_code 76 = .ok (.invokestatic 353, 3) := by decide +kernel
theorem d_M_ask_79 : decode prog_14_method_101_code 79 = .ok (.istore 8, 2) := by decide +kernel
theorem d_M_ask_81 : decode prog_14_method_101_code 81 = .ok (.iload 8, 2) := by decide +kernel
theorem d_M_ask_83 : decode prog_14_method_101_code 83 = .ok (.iload 4, 2) := by decide +kernel
theorem d_M_ask_85 : decode prog_14_method_101_code 85 = .ok (.if_icmp .gt 6, 3) := by decide +kernel
theorem d_M_ask_91 : decode prog_14_method_101_code 91 = .ok (.iload 8, 2) := by decide +kernel
theorem d_M_ask_93 : decode prog_14_method_101_code 93 = .ok (.istore 4, 2) := by decide +kernel
theorem d_M_ask_95 : decode prog_14_method_101_code 95 = .ok (.bipush 32, 2) := by decide +kernel
theorem d_M_ask_97 : decode prog_14_method_101_code 97 = .ok (.aload_n 0, 1) := by decide +kernel
theorem d_M_ask_98 : decode prog_14_method_101_code 98 = .ok (.getfield 123, 3) := by decide +kernel
theorem d_M_ask_101 : decode prog_14_method_101_code 101 = .ok (.iload 5, 2) := by decide +kernel
theorem d_M_ask_103 : decode prog_14_method_101_code 103 = .ok (.iaload, 1) := by decide +kernel
theorem d_M_ask_104 : decode prog_14_method_101_code 104 = .ok (.imul, 1) := by decide +kernel
theorem d_M_ask_105 : decode prog_14_method_101_code 105 = .ok (.aload_n 0, 1) := by decide +kernel
theorem d_M_ask_106 : decode prog_14_method_101_code 106 = .ok (.getfield 123, 3) := by decide +kernel
theorem d_M_ask_109 : decode prog_14_method_101_code 109 = .ok (.iload 6, 2) := by decide +kernel
theorem d_M_ask_111 : decode prog_14_method_101_code 111 = .ok (.iaload, 1) := by decide +kernel
theorem d_M_ask_112 : decode prog_14_method_101_code 112 = .ok (.iadd, 1) := by decide +kernel
theorem d_M_ask_113 : decode prog_14_method_101_code 113 = .ok (.istore_n 3, 1) := by decide +kernel
theorem d_M_ask_114 : decode prog_14_method_101_code 114 = .ok (.iinc 6 1, 3) := by decide +kernel
theorem d_M_ask_117 : decode prog_14_method_101_code 117 = .ok (.goto (-66), 3) := by decide +kernel
theorem d_M_ask_88 : decode prog_14_method_101_code 88 = .ok (.goto 26, 3) := by decide +kernel
theorem d_M_ask_120 : decode prog_14_method_101_code 120 = .ok (.iinc 5 1, 3) := by decide +kernel
theorem d_M_ask_123 : decode prog_14_method_101_code 123 = .ok (.goto (-87), 3) := by decide +kernel
theorem d_M_ask_126 : decode prog_14_method_101_code 126 = .ok (.iload_n 3, 1) := by decide +kernel
theorem d_M_ask_127 : decode prog_14_method_101_code 127 = .ok (.ireturn, 1) := by decide +kernel
theorem d_M_hangs_0 : decode prog_14_method_102_code 0 = .ok (.aload_n 0, 1) := by decide +kernel
theorem d_M_hangs_1 : decode prog_14_method_102_code 1 = .ok (.iconst 0, 1) := by decide +kernel
theorem d_M_hangs_2 : decode prog_14_method_102_code 2 = .ok (.putfield 132, 3) := by decide +kernel
theorem d_M_hangs_5 : decode prog_14_method_102_code 5 = .ok (.aload_n 0, 1) := by decide +kernel
theorem d_M_hangs_6 : decode prog_14_method_102_code 6 = .ok (.iload_n 1, 1) := by decide +kernel
theorem d_M_hangs_7 : decode prog_14_method_102_code 7 = .ok (.invokevirtual 309, 3) := by decide +kernel
theorem d_M_hangs_10 : decode prog_14_method_102_code 10 = .ok (.ifCond .eq 12, 3) := by decide +kernel
theorem d_M_hangs_22 : decode prog_14_method_102_code 22 = .ok (.iconst (-1), 1) := by decide +kernel
theorem d_M_hangs_23 : decode prog_14_method_102_code 23 = .ok (.ireturn, 1) := by decide +kernel
theorem d_M_hangs_13 : decode prog_14_method_102_code 13 = .ok (.iload_n 2, 1) := by decide +kernel
theorem d_M_hangs_14 : decode prog_14_method_102_code 14 = .ok (.ifCond .lt 8, 3) := by decide +kernel
theorem d_M_hangs_17 : decode prog_14_method_102_code 17 = .ok (.iload_n 2, 1) := by decide +kernel
theorem d_M_hangs_18 : decode prog_14_method_102_code 18 = .ok (.iconst 1, 1) := by decide +kernel
theorem d_M_hangs_19 : decode prog_14_method_102_code 19 = .ok (.if_icmp .le 5, 3) := by decide +kernel
theorem d_M_hangs_24 : decode prog_14_method_102_code 24 = .ok (.iconst 0, 1) := by decide +kernel
theorem d_M_hangs_25 : decode prog_14_method_102_code 25 = .ok (.istore_n 3, 1) := by decide +kernel
theorem d_M_hangs_26 : decode prog_14_method_102_code 26 = .ok (.iconst 0, 1) := by decide +kernel
theorem d_M_hangs_27 : decode prog_14_method_102_code 27 = .ok (.istore 4, 2) := by decide +kernel
theorem d_M_hangs_29 : decode prog_14_method_102_code 29 = .ok (.iconst 0, 1) := by decide +kernel
theorem d_M_hangs_30 : decode prog_14_method_102_code 30 = .ok (.istore 5, 2) := by decide +kernel
theorem d_M_hangs_32 : decode prog_14_method_102_code 32 = .ok (.iload_n 1, 1) := by decide +kernel
theorem d_M_hangs_33 : decode prog_14_method_102_code 33 = .ok (.iconst 1, 1) := by decide +kernel
theorem d_M_hangs_34 : decode prog_14_method_102_code 34 = .ok (.iadd, 1) := by decide +kernel
theorem d_M_hangs_35 : decode prog_14_method_102_code 35 = .ok (.istore 6, 2) := by decide +kernel
theorem d_M_hangs_37 : decode prog_14_method_102_code 37 = .ok (.iload 6, 2) := by decide +kernel
theorem d_M_hangs_39 : decode prog_14_method_102_code 39 = .ok (.aload_n 0, 1) := by decide +kernel
theorem d_M_hangs_40 : decode prog_14_method_102_code 40 = .ok (.getfield 277, 3) := by decide +kernel
theorem d_M_hangs_43 : decode prog_14_method_102_code 43 = .ok (.if_icmp .ge 143, 3) := by decide +kernel
theorem d_M_hangs_46 : decode prog_14_method_102_code 46 = .ok (.iload_n 3, 1) := by decide +kernel
theorem d_M_hangs_47 : decode prog_14_method_102_code 47 = .ok (.aload_n 0, 1) := by decide +kernel
theorem d_M_hangs_48 : decode prog_14_method_102_code 48 = .ok (.getfield 54, 3) := by decide +kernel
theorem d_M_hangs_51 : decode prog_14_method_102_code 51 = .ok (.iload 6, 2) := by decide +kernel
theorem d_M_hangs_53 : decode prog_14_method_102_code 53 = .ok (.iaload, 1) := by decide +kernel
theorem d_M_hangs_54 : decode prog_14_method_102_code 54 = .ok (.iconst 2, 1) := by decide +kernel
theorem d_M_hangs_55 : decode prog_14_method_102_code 55 = .ok (.if_icmp .ne 18, 3) := by decide +kernel
theorem d_M_hangs_73 : decode prog_14_method_102_code 73 = .ok (.iconst 0, 1) := by decide +kernel
theorem d_M_hangs_74 : decode prog_14_method_102_code 74 = .ok (.ior, 1) := by decide +kernel
theorem d_M_hangs_75 : decode prog_14_method_102_code 75 = .ok (.istore_n 3, 1) := by decide +kernel
theorem d_M_hangs_76 : decode prog_14_method_102_code 76 = .ok (.aload_n 0, 1) := by decide +kernel
theorem d_M_hangs_77 : decode prog_14_method_102_code 77 = .ok (.iload_n 1, 1) := by decide +kernel
theorem d_M_hangs_78 : decode prog_14_method_102_code 78 = .ok (.iload 6, 2) := by decide +kernel
theorem d_M_hangs_80 : decode prog_14_method_102_code 80 = .ok (.invokevirtual 350, 3) := by decide +kernel
theorem d_M_hangs_83 : decode prog_14_method_102_code 83 = .ok (.ifCond .eq 12, 3) := by decide +kernel
theorem d_M_hangs_95 : decode prog_14_method_102_code 95 = .ok (.aload_n 0, 1) := by decide +kernel
theorem d_M_hangs_96 : decode prog_14_method_102_code 96 = .ok (.getfield 60, 3) := by decide +kernel
theorem d_M_hangs_99 : decode prog_14_method_102_code 99 = .ok (.iload 6, 2) := by decide +kernel
theorem d_M_hangs_101 : decode prog_14_method_102_code 101 = .ok (.iaload, 1) := by decide +kernel
theorem d_M_hangs_102 : decode prog_14_method_102_code 102 = .ok (.iload_n 1, 1) := by decide +kernel
theorem d_M_hangs_103 : decode prog_14_method_102_code 103 = .ok (.if_icmp .eq 68, 3) := by decide +kernel
theorem d_M_hangs_171 : decode prog_14_method_102_code 171 = .ok (.iload 4, 2) := by decide +kernel
theorem d_M_hangs_173 : decode prog_14_method_102_code 173 = .ok (.iconst 1, 1) := by decide +kernel
theorem d_M_hangs_174 : decode prog_14_method_102_code 174 = .ok (.iload 6, 2) := by decide +kernel
theorem d_M_hangs_176 : decode prog_14_method_102_code 176 = .ok (.ishl, 1) := by decide +kernel
theorem d_M_hangs_177 : decode prog_14_method_102_code 177 = .ok (.ior, 1) := by decide +kernel
theorem d_M_hangs_178 : decode prog_14_method_102_code 178 = .ok (.istore 4, 2) := by decide +kernel
theorem d_M_hangs_180 : decode prog_14_method_102_code 180 = .ok (.iinc 6 1, 3) := by decide +kernel
theorem d_M_hangs_183 : decode prog_14_method_102_code 183 = .ok (.goto (-146), 3) := by decide +kernel
theorem d_M_hangs_106 : decode prog_14_method_102_code 106 = .ok (.aload_n 0, 1) := by decide +kernel
theorem d_M_hangs_107 : decode prog_14_method_102_code 107 = .ok (.getfield 63, 3) := by decide +kernel
theorem d_M_hangs_110 : decode prog_14_method_102_code 110 = .ok (.iload 6, 2) := by decide +kernel
theorem d_M_hangs_112 : decode prog_14_method_102_code 112 = .ok (.iaload, 1) := by decide +kernel
theorem d_M_hangs_113 : decode prog_14_method_102_code 113 = .ok (.iload_n 1, 1) := by decide +kernel
theorem d_M_hangs_114 : decode prog_14_method_102_code 114 = .ok (.if_icmp .eq 57, 3) := by decide +kernel
theorem d_M_hangs_117 : decode prog_14_method_102_code 117 = .ok (.aload_n 0, 1) := by decide +kernel
theorem d_M_hangs_118 : decode prog_14_method_102_code 118 = .ok (.getfield 60, 3) := by decide +kernel
theorem d_M_hangs_121 : decode prog_14_method_102_code 121 = .ok (.iload 6, 2) := by decide +kernel
theorem d_M_hangs_123 : decode prog_14_method_102_code 123 = .ok (.iaload, 1) := by decide +kernel
theorem d_M_hangs_124 : decode prog_14_method_102_code 124 = .ok (.iconst (-1), 1) := by decide +kernel
theorem d_M_hangs_125 : decode prog_14_method_102_code 125 = .ok (.if_icmp .eq 19, 3) := by decide +kernel
theorem d_M_hangs_144 : decode prog_14_method_102_code 144 = .ok (.aload_n 0, 1) := by decide +kernel
theorem d_M_hangs_145 : decode prog_14_method_102_code 145 = .ok (.getfield 63, 3) := by decide +kernel
theorem d_M_hangs_148 : decode prog_14_method_102_code 148 = .ok (.iload 6, 2) := by decide +kernel
theorem d_M_hangs_150 : decode prog_14_method_102_code 150 = .ok (.iaload, 1) := by decide +kernel
theorem d_M_hangs_151 : decode prog_14_method_102_code 151 = .ok (.iconst (-1), 1) := by decide +kernel
theorem d_M_hangs_152 : decode prog_14_method_102_code 152 = .ok (.if_icmp .eq 28, 3) := by decide +kernel
theorem d_M_hangs_155 : decode prog_14_method_102_code 155 = .ok (.iload 4, 2) := by decide +kernel
theorem d_M_hangs_157 : decode prog_14_method_102_code 157 = .ok (.aload_n 0, 1) := by decide +kernel
theorem d_M_hangs_158 : decode prog_14_method_102_code 158 = .ok (.getfield 63, 3) := by decide +kernel
theorem d_M_hangs_161 : decode prog_14_method_102_code 161 = .ok (.iload 6, 2) := by decide +kernel
theorem d_M_hangs_163 : decode prog_14_method_102_code 163 = .ok (.iaload, 1) := by decide +kernel
theorem d_M_hangs_164 : decode prog_14_method_102_code 164 = .ok (.ishr, 1) := by decide +kernel
theorem d_M_hangs_165 : decode prog_14_method_102_code 165 = .ok (.iconst 1, 1) := by decide +kernel
theorem d_M_hangs_166 : decode prog_14_method_102_code 166 = .ok (.iand, 1) := by decide +kernel
theorem d_M_hangs_167 : decode prog_14_method_102_code 167 = .ok (.iconst 1, 1) := by decide +kernel
theorem d_M_hangs_168 : decode prog_14_method_102_code 168 = .ok (.if_icmp .ne 12, 3) := by decide +kernel
theorem d_M_hangs_128 : decode prog_14_method_102_code 128 = .ok (.iload 4, 2) := by decide +kernel
theorem d_M_hangs_130 : decode prog_14_method_102_code 130 = .ok (.aload_n 0, 1) := by decide +kernel
theorem d_M_hangs_131 : decode prog_14_method_102_code 131 = .ok (.getfield 60, 3) := by decide +kernel
theorem d_M_hangs_134 : decode prog_14_method_102_code 134 = .ok (.iload 6, 2) := by decide +kernel
theorem d_M_hangs_136 : decode prog_14_method_102_code 136 = .ok (.iaload, 1) := by decide +kernel
theorem d_M_hangs_137 : decode prog_14_method_102_code 137 = .ok (.ishr, 1) := by decide +kernel
theorem d_M_hangs_138 : decode prog_14_method_102_code 138 = .ok (.iconst 1, 1) := by decide +kernel
theorem d_M_hangs_139 : decode prog_14_method_102_code 139 = .ok (.iand, 1) := by decide +kernel
theorem d_M_hangs_140 : decode prog_14_method_102_code 140 = .ok (.iconst 1, 1) := by decide +kernel
theorem d_M_hangs_141 : decode prog_14_method_102_code 141 = .ok (.if_icmp .eq 30, 3) := by decide +kernel
theorem d_M_hangs_86 : decode prog_14_method_102_code 86 = .ok (.iload 5, 2) := by decide +kernel
theorem d_M_hangs_88 : decode prog_14_method_102_code 88 = .ok (.iconst 1, 1) := by decide +kernel
theorem d_M_hangs_89 : decode prog_14_method_102_code 89 = .ok (.iload 6, 2) := by decide +kernel
theorem d_M_hangs_91 : decode prog_14_method_102_code 91 = .ok (.ishl, 1) := by decide +kernel
theorem d_M_hangs_92 : decode prog_14_method_102_code 92 = .ok (.ior, 1) := by decide +kernel
theorem d_M_hangs_93 : decode prog_14_method_102_code 93 = .ok (.istore 5, 2) := by decide +kernel
theorem d_M_hangs_58 : decode prog_14_method_102_code 58 = .ok (.aload_n 0, 1) := by decide +kernel
theorem d_M_hangs_59 : decode prog_14_method_102_code 59 = .ok (.getfield 60, 3) := by decide +kernel
theorem d_M_hangs_62 : decode prog_14_method_102_code 62 = .ok (.iload 6, 2) := by decide +kernel
theorem d_M_hangs_64 : decode prog_14_method_102_code 64 = .ok (.iaload, 1) := by decide +kernel
theorem d_M_hangs_65 : decode prog_14_method_102_code 65 = .ok (.iload_n 1, 1) := by decide +kernel
theorem d_M_hangs_66 : decode prog_14_method_102_code 66 = .ok (.if_icmp .ne 7, 3) := by decide +kernel
theorem d_M_hangs_69 : decode prog_14_method_102_code 69 = .ok (.iconst 1, 1) := by decide +kernel
theorem d_M_hangs_70 : decode prog_14_method_102_code 70 = .ok (.goto 4, 3) := by decide +kernel
theorem d_M_hangs_186 : decode prog_14_method_102_code 186 = .ok (.iload_n 3, 1) := by decide +kernel
theorem d_M_hangs_187 : decode prog_14_method_102_code 187 = .ok (.ifCond .ne 7, 3) := by decide +kernel
theorem d_M_hangs_194 : decode prog_14_method_102_code 194 = .ok (.iload_n 2, 1) := by decide +kernel
theorem d_M_hangs_195 : decode prog_14_method_102_code 195 = .ok (.ifCond .ne 8, 3) := by decide +kernel
theorem d_M_hangs_203 : decode prog_14_method_102_code 203 = .ok (.iload 5, 2) := by decide +kernel
theorem d_M_hangs_205 : decode prog_14_method_102_code 205 = .ok (.ireturn, 1) := by decide +kernel
theorem d_M_hangs_198 : decode prog_14_method_102_code 198 = .ok (.iload 4, 2) := by decide +kernel
theorem d_M_hangs_200 : decode prog_14_method_102_code 200 = .ok (.goto 5, 3) := by decide +kernel
theorem d_M_hangs_190 : decode prog_14_method_102_code 190 = .ok (.iconst (-1), 1) := by decide +kernel
theorem d_M_hangs_191 : decode prog_14_method_102_code 191 = .ok (.goto 14, 3) := by decide +kernel
theorem d_M_count_0 : decode prog_14_method_103_code 0 = .ok (.aload_n 0, 1) := by decide +kernel
theorem d_M_count_1 : decode prog_14_method_103_code 1 = .ok (.iconst 0, 1) := by decide +kernel
theorem d_M_count_2 : decode prog_14_method_103_code 2 = .ok (.putfield 132, 3) := by decide +kernel
theorem d_M_count_5 : decode prog_14_method_103_code 5 = .ok (.iconst 0, 1) := by decide +kernel
theorem d_M_count_6 : decode prog_14_method_103_code 6 = .ok (.istore_n 2, 1) := by decide +kernel
theorem d_M_count_7 : decode prog_14_method_103_code 7 = .ok (.iload_n 1, 1) := by decide +kernel
theorem d_M_count_8 : decode prog_14_method_103_code 8 = .ok (.tableswitch 161 0 9 #[56, 61, 66, 71, 106, 131, 136, 146, 151, 156], 56) := by decide +kernel
theorem d_M_count_169 : decode prog_14_method_103_code 169 = .ok (.iconst (-1), 1) := by decide +kernel
theorem d_M_count_170 : decode prog_14_method_103_code 170 = .ok (.ireturn, 1) := by decide +kernel
theorem d_M_count_164 : decode prog_14_method_103_code 164 = .ok (.aload_n 0, 1) := by decide +kernel
theorem d_M_count_165 : decode prog_14_method_103_code 165 = .ok (.getfield 419, 3) := by decide +kernel
theorem d_M_count_168 : decode prog_14_method_103_code 168 = .ok (.ireturn, 1) := by decide +kernel
theorem d_M_count_159 : decode prog_14_method_103_code 159 = .ok (.aload_n 0, 1) := by decide +kernel
theorem d_M_count_160 : decode prog_14_method_103_code 160 = .ok (.getfield 264, 3) := by decide +kernel
theorem d_M_count_163 : decode prog_14_method_103_code 163 = .ok (.ireturn, 1) := by decide +kernel
theorem d_M_count_154 : decode prog_14_method_103_code 154 = .ok (.aload_n 0, 1) := by decide +kernel
theorem d_M_count_155 : decode prog_14_method_103_code 155 = .ok (.getfield 261, 3) := by decide +kernel
theorem d_M_count_158 : decode prog_14_method_103_code 158 = .ok (.ireturn, 1) := by decide +kernel
theorem d_M_count_144 : decode prog_14_method_103_code 144 = .ok (.aload_n 0, 1) := by decide +kernel
theorem d_M_count_145 : decode prog_14_method_103_code 145 = .ok (.getfield 277, 3) := by decide +kernel
theorem d_M_count_148 : decode prog_14_method_103_code 148 = .ok (.aload_n 0, 1) := by decide +kernel
theorem d_M_count_149 : decode prog_14_method_103_code 149 = .ok (.getfield 399, 3) := by decide +kernel
theorem d_M_count_152 : decode prog_14_method_103_code 152 = .ok (.isub, 1) := by decide +kernel
theorem d_M_count_153 : decode prog_14_method_103_code 153 = .ok (.ireturn, 1) := by decide +kernel
theorem d_M_count_139 : decode prog_14_method_103_code 139 = .ok (.aload_n 0, 1) := by decide +kernel
theorem d_M_count_140 : decode prog_14_method_103_code 140 = .ok (.getfield 330, 3) := by decide +kernel
theorem d_M_count_143 : decode prog_14_method_103_code 143 = .ok (.ireturn, 1) := by decide +kernel
theorem d_M_count_114 : decode prog_14_method_103_code 114 = .ok (.iconst 0, 1) := by decide +kernel
theorem d_M_count_115 : decode prog_14_method_103_code 115 = .ok (.istore_n 3, 1) := by decide +kernel
theorem d_M_count_116 : decode prog_14_method_103_code 116 = .ok (.iload_n 3, 1) := by decide +kernel
theorem d_M_count_117 : decode prog_14_method_103_code 117 = .ok (.bipush 6, 2) := by decide +kernel
theorem d_M_count_119 : decode prog_14_method_103_code 119 = .ok (.if_icmp .ge 18, 3) := by decide +kernel
theorem d_M_count_122 : decode prog_14_method_103_code 122 = .ok (.iload_n 2, 1) := by decide +kernel
theorem d_M_count_123 : decode prog_14_method_103_code 123 = .ok (.aload_n 0, 1) := by decide +kernel
theorem d_M_count_124 : decode prog_14_method_103_code 124 = .ok (.getfield 99, 3) := by decide +kernel
theorem d_M_count_127 : decode prog_14_method_103_code 127 = .ok (.iload_n 3, 1) := by decide +kernel
theorem d_M_count_128 : decode prog_14_method_103_code 128 = .ok (.iaload, 1) := by decide +kernel
theorem d_M_count_129 : decode prog_14_method_103_code 129 = .ok (.iadd, 1) := by decide +kernel
theorem d_M_count_130 : decode prog_14_method_103_code 130 = .ok (.istore_n 2, 1) := by decide +kernel
theorem d_M_count_131 : decode prog_14_method_103_code 131 = .ok (.iinc 3 1, 3) := by decide +kernel
theorem d_M_count_134 : decode prog_14_method_103_code 134 = .ok (.goto (-18), 3) := by decide +kernel
theorem d_M_count_137 : decode prog_14_method_103_code 137 = .ok (.iload_n 2, 1) := by decide +kernel
theorem d_M_count_138 : decode prog_14_method_103_code 138 = .ok (.ireturn, 1) := by decide +kernel
theorem d_M_count_79 : decode prog_14_method_103_code 79 = .ok (.iconst 0, 1) := by decide +kernel
theorem d_M_count_80 : decode prog_14_method_103_code 80 = .ok (.istore_n 3, 1) := by decide +kernel
theorem d_M_count_81 : decode prog_14_method_103_code 81 = .ok (.iload_n 3, 1) := by decide +kernel
theorem d_M_count_82 : decode prog_14_method_103_code 82 = .ok (.aload_n 0, 1) := by decide +kernel
theorem d_M_count_83 : decode prog_14_method_103_code 83 = .ok (.getfield 292, 3) := by decide +kernel
theorem d_M_count_86 : decode prog_14_method_103_code 86 = .ok (.if_icmp .ge 26, 3) := by decide +kernel
theorem d_M_count_89 : decode prog_14_method_103_code 89 = .ok (.iload_n 2, 1) := by decide +kernel
theorem d_M_count_90 : decode prog_14_method_103_code 90 = .ok (.aload_n 0, 1) := by decide +kernel
theorem d_M_count_91 : decode prog_14_method_103_code 91 = .ok (.getfield 87, 3) := by decide +kernel
theorem d_M_count_94 : decode prog_14_method_103_code 94 = .ok (.iload_n 3, 1) := by decide +kernel
theorem d_M_count_95 : decode prog_14_method_103_code 95 = .ok (.iaload, 1) := by decide +kernel
theorem d_M_count_96 : decode prog_14_method_103_code 96 = .ok (.ifCond .ne 7, 3) := by decide +kernel
theorem d_M_count_103 : decode prog_14_method_103_code 103 = .ok (.iconst 0, 1) := by decide +kernel
theorem d_M_count_104 : decode prog_14_method_103_code 104 = .ok (.iadd, 1) := by decide +kernel
theorem d_M_count_105 : decode prog_14_method_103_code 105 = .ok (.istore_n 2, 1) := by decide +kernel
theorem d_M_count_106 : decode prog_14_method_103_code 106 = .ok (.iinc 3 1, 3) := by decide +kernel
theorem d_M_count_109 : decode prog_14_method_103_code 109 = .ok (.goto (-28), 3) := by decide +kernel
theorem d_M_count_99 : decode prog_14_method_103_code 99 = .ok (.iconst 1, 1) := by decide +kernel
theorem d_M_count_100 : decode prog_14_method_103_code 100 = .ok (.goto 4, 3) := by decide +kernel
theorem d_M_count_112 : decode prog_14_method_103_code 112 = .ok (.iload_n 2, 1) := by decide +kernel
theorem d_M_count_113 : decode prog_14_method_103_code 113 = .ok (.ireturn, 1) := by decide +kernel
theorem d_M_count_74 : decode prog_14_method_103_code 74 = .ok (.aload_n 0, 1) := by decide +kernel
theorem d_M_count_75 : decode prog_14_method_103_code 75 = .ok (.getfield 292, 3) := by decide +kernel
theorem d_M_count_78 : decode prog_14_method_103_code 78 = .ok (.ireturn, 1) := by decide +kernel
theorem d_M_count_69 : decode prog_14_method_103_code 69 = .ok (.aload_n 0, 1) := by decide +kernel
theorem d_M_count_70 : decode prog_14_method_103_code 70 = .ok (.getfield 277, 3) := by decide +kernel
theorem d_M_count_73 : decode prog_14_method_103_code 73 = .ok (.ireturn, 1) := by decide +kernel
theorem d_M_count_64 : decode prog_14_method_103_code 64 = .ok (.aload_n 0, 1) := by decide +kernel
theorem d_M_count_65 : decode prog_14_method_103_code 65 = .ok (.getfield 295, 3) := by decide +kernel
theorem d_M_count_68 : decode prog_14_method_103_code 68 = .ok (.ireturn, 1) := by decide +kernel
theorem d_JS_length_0 : decode prog_24_method_54_code 0 = .ok (.aload_n 0, 1) := by decide +kernel
theorem d_JS_length_1 : decode prog_24_method_54_code 1 = .ok (.getfield 9, 3) := by decide +kernel
theorem d_JS_length_4 : decode prog_24_method_54_code 4 = .ok (.arraylength, 1) := by decide +kernel
theorem d_JS_length_5 : decode prog_24_method_54_code 5 = .ok (.aload_n 0, 1) := by decide +kernel
theorem d_JS_length_6 : decode prog_24_method_54_code 6 = .ok (.invokevirtual 335, 3) := by decide +kernel
theorem d_JS_length_9 : decode prog_24_method_54_code 9 = .ok (.ishr, 1) := by decide +kernel
theorem d_JS_length_10 : decode prog_24_method_54_code 10 = .ok (.ireturn, 1) := by decide +kernel
theorem d_JS_charAt_0 : decode prog_24_method_56_code 0 = .ok (.aload_n 0, 1) := by decide +kernel
theorem d_JS_charAt_1 : decode prog_24_method_56_code 1 = .ok (.invokevirtual 492, 3) := by decide +kernel
theorem d_JS_charAt_4 : decode prog_24_method_56_code 4 = .ok (.ifCond .eq 12, 3) := by decide +kernel
theorem d_JS_charAt_7 : decode prog_24_method_56_code 7 = .ok (.aload_n 0, 1) := by decide +kernel
theorem d_JS_charAt_8 : decode prog_24_method_56_code 8 = .ok (.getfield 9, 3) := by decide +kernel
theorem d_JS_charAt_11 : decode prog_24_method_56_code 11 = .ok (.iload_n 1, 1) := by decide +kernel
theorem d_JS_charAt_12 : decode prog_24_method_56_code 12 = .ok (.invokestatic 495, 3) := by decide +kernel
theorem d_JS_charAt_15 : decode prog_24_method_56_code 15 = .ok (.ireturn, 1) := by decide +kernel
theorem d_JS_charAt_16 : decode prog_24_method_56_code 16 = .ok (.aload_n 0, 1) := by decide +kernel
theorem d_JS_charAt_17 : decode prog_24_method_56_code 17 = .ok (.getfield 9, 3) := by decide +kernel
theorem d_JS_charAt_20 : decode prog_24_method_56_code 20 = .ok (.iload_n 1, 1) := by decide +kernel
theorem d_JS_charAt_21 : decode prog_24_method_56_code 21 = .ok (.invokestatic 498, 3) := by decide +kernel
theorem d_JS_charAt_24 : decode prog_24_method_56_code 24 = .ok (.ireturn, 1) := by decide +kernel
theorem d_JS_coder_0 : decode prog_24_method_152_code 0 = .ok (.getstatic 38, 3) := by decide +kernel
theorem d_JS_coder_3 : decode prog_24_method_152_code 3 = .ok (.ifCond .eq 10, 3) := by decide +kernel
theorem d_JS_coder_6 : decode prog_24_method_152_code 6 = .ok (.aload_n 0, 1) := by decide +kernel
theorem d_JS_coder_7 : decode prog_24_method_152_code 7 = .ok (.getfield 15, 3) := by decide +kernel
theorem d_JS_coder_10 : decode prog_24_method_152_code 10 = .ok (.goto 4, 3) := by decide +kernel
theorem d_JS_coder_13 : decode prog_24_method_152_code 13 = .ok (.iconst 1, 1) := by decide +kernel
theorem d_JS_coder_14 : decode prog_24_method_152_code 14 = .ok (.ireturn, 1) := by decide +kernel
theorem d_JS_isLatin1_0 : decode prog_24_method_154_code 0 = .ok (.getstatic 38, 3) := by decide +kernel
theorem d_JS_isLatin1_3 : decode prog_24_method_154_code 3 = .ok (.ifCond .eq 14, 3) := by decide +kernel
theorem d_JS_isLatin1_6 : decode prog_24_method_154_code 6 = .ok (.aload_n 0, 1) := by decide +kernel
theorem d_JS_isLatin1_7 : decode prog_24_method_154_code 7 = .ok (.getfield 15, 3) := by decide +kernel
theorem d_JS_isLatin1_10 : decode prog_24_method_154_code 10 = .ok (.ifCond .ne 7, 3) := by decide +kernel
theorem d_JS_isLatin1_13 : decode prog_24_method_154_code 13 = .ok (.iconst 1, 1) := by decide +kernel
theorem d_JS_isLatin1_14 : decode prog_24_method_154_code 14 = .ok (.goto 4, 3) := by decide +kernel
theorem d_JS_isLatin1_17 : decode prog_24_method_154_code 17 = .ok (.iconst 0, 1) := by decide +kernel
theorem d_JS_isLatin1_18 : decode prog_24_method_154_code 18 = .ok (.ireturn, 1) := by decide +kernel
theorem d_JS_checkIndex_0 : decode prog_24_method_155_code 0 = .ok (.iload_n 0, 1) := by decide +kernel
theorem d_JS_checkIndex_1 : decode prog_24_method_155_code 1 = .ok (.iload_n 1, 1) := by decide +kernel
theorem d_JS_checkIndex_2 : decode prog_24_method_155_code 2 = .ok (.getstatic 1053, 3) := by decide +kernel
theorem d_JS_checkIndex_5 : decode prog_24_method_155_code 5 = .ok (.invokestatic 1059, 3) := by decide +kernel
theorem d_JS_checkIndex_8 : decode prog_24_method_155_code 8 = .ok (.pop, 1) := by decide +kernel
theorem d_JS_checkIndex_9 : decode prog_24_method_155_code 9 = .ok (.return_, 1) := by decide +kernel
theorem d_JL_charAt_0 : decode prog_25_method_2_code 0 = .ok (.iload_n 1, 1) := by decide +kernel
theorem d_JL_charAt_1 : decode prog_25_method_2_code 1 = .ok (.aload_n 0, 1) := by decide +kernel
theorem d_JL_charAt_2 : decode prog_25_method_2_code 2 = .ok (.arraylength, 1) := by decide +kernel
theorem d_JL_charAt_3 : decode prog_25_method_2_code 3 = .ok (.invokestatic 9, 3) := by decide +kernel
theorem d_JL_charAt_6 : decode prog_25_method_2_code 6 = .ok (.aload_n 0, 1) := by decide +kernel
theorem d_JL_charAt_7 : decode prog_25_method_2_code 7 = .ok (.iload_n 1, 1) := by decide +kernel
theorem d_JL_charAt_8 : decode prog_25_method_2_code 8 = .ok (.baload, 1) := by decide +kernel
theorem d_JL_charAt_9 : decode prog_25_method_2_code 9 = .ok (.sipush 255, 3) := by decide +kernel
theorem d_JL_charAt_12 : decode prog_25_method_2_code 12 = .ok (.iand, 1) := by decide +kernel
theorem d_JL_charAt_13 : decode prog_25_method_2_code 13 = .ok (.i2c, 1) := by decide +kernel
theorem d_JL_charAt_14 : decode prog_25_method_2_code 14 = .ok (.ireturn, 1) := by decide +kernel
theorem d_JP_checkIndex_0 : decode prog_32_method_11_code 0 = .ok (.iload_n 0, 1) := by decide +kernel
theorem d_JP_checkIndex_1 : decode prog_32_method_11_code 1 = .ok (.ifCond .lt 8, 3) := by decide +kernel
theorem d_JP_checkIndex_4 : decode prog_32_method_11_code 4 = .ok (.iload_n 0, 1) := by decide +kernel
theorem d_JP_checkIndex_5 : decode prog_32_method_11_code 5 = .ok (.iload_n 1, 1) := by decide +kernel
theorem d_JP_checkIndex_6 : decode prog_32_method_11_code 6 = .ok (.if_icmp .lt 10, 3) := by decide +kernel
theorem d_JP_checkIndex_9 : decode prog_32_method_11_code 9 = .ok (.aload_n 2, 1) := by decide +kernel
theorem d_JP_checkIndex_10 : decode prog_32_method_11_code 10 = .ok (.iload_n 0, 1) := by decide +kernel
theorem d_JP_checkIndex_11 : decode prog_32_method_11_code 11 = .ok (.iload_n 1, 1) := by decide +kernel
theorem d_JP_checkIndex_12 : decode prog_32_method_11_code 12 = .ok (.invokestatic 95, 3) := by decide +kernel
theorem d_JP_checkIndex_15 : decode prog_32_method_11_code 15 = .ok (.athrow, 1) := by decide +kernel
theorem d_JP_checkIndex_16 : decode prog_32_method_11_code 16 = .ok (.iload_n 0, 1) := by decide +kernel
theorem d_JP_checkIndex_17 : decode prog_32_method_11_code 17 = .ok (.ireturn, 1) := by decide +kernel
theorem d_JE_ordinal_0 : decode prog_18_method_2_code 0 = .ok (.aload_n 0, 1) := by decide +kernel
theorem d_JE_ordinal_1 : decode prog_18_method_2_code 1 = .ok (.getfield 7, 3) := by decide +kernel
theorem d_JE_ordinal_4 : decode prog_18_method_2_code 4 = .ok (.ireturn, 1) := by decide +kernel
