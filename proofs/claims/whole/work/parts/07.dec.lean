theorem d_JS_length_0 : decode prog_24_method_54_code 0 = .ok (.aload_n 0, 1) := by decide +kernel
theorem d_JS_length_1 : decode prog_24_method_54_code 1 = .ok (.getfield 9, 3) := by decide +kernel
theorem d_JS_length_4 : decode prog_24_method_54_code 4 = .ok (.arraylength, 1) := by decide +kernel
theorem d_JS_length_5 : decode prog_24_method_54_code 5 = .ok (.aload_n 0, 1) := by decide +kernel
theorem d_JS_length_6 : decode prog_24_method_54_code 6 = .ok (.invokevirtual 335, 3) := by decide +kernel
theorem d_JS_length_9 : decode prog_24_method_54_code 9 = .ok (.ishr, 1) := by decide +kernel
theorem d_JS_length_10 : decode prog_24_method_54_code 10 = .ok (.ireturn, 1) := by decide +kernel
theorem d_JS_charAt_0 : decode prog_24_method_56_code 0 = .ok (.aload_n 0, 1) := by decide +kernel
theorem d_JS_charAt_1 : decode prog_24_method_56_code 1 = .ok (.invokevirtual 492, 3) := by decide +kernel
theorem d_JS_charAt_4 : decode prog_24_method_56_code 4 = .ok (.ifCond .eq 12, 3) := by decide +kernel
theorem d_JS_charAt_7 : decode prog_24_method_56_code 7 = .ok (.aload_n 0, 1) := by decide +kernel
theorem d_JS_charAt_8 : decode prog_24_method_56_code 8 = .ok (.getfield 9, 3) := by decide +kernel
theorem d_JS_charAt_11 : decode prog_24_method_56_code 11 = .ok (.iload_n 1, 1) := by decide +kernel
theorem d_JS_charAt_12 : decode prog_24_method_56_code 12 = .ok (.invokestatic 495, 3) := by decide +kernel
theorem d_JS_charAt_15 : decode prog_24_method_56_code 15 = .ok (.ireturn, 1) := by decide +kernel
theorem d_JS_coder_0 : decode prog_24_method_152_code 0 = .ok (.getstatic 38, 3) := by decide +kernel
theorem d_JS_coder_3 : decode prog_24_method_152_code 3 = .ok (.ifCond .eq 10, 3) := by decide +kernel
theorem d_JS_coder_6 : decode prog_24_method_152_code 6 = .ok (.aload_n 0, 1) := by decide +kernel
theorem d_JS_coder_7 : decode prog_24_method_152_code 7 = .ok (.getfield 15, 3) := by decide +kernel
theorem d_JS_coder_10 : decode prog_24_method_152_code 10 = .ok (.goto 4, 3) := by decide +kernel
theorem d_JS_coder_14 : decode prog_24_method_152_code 14 = .ok (.ireturn, 1) := by decide +kernel
theorem d_JS_isLatin1_0 : decode prog_24_method_154_code 0 = .ok (.getstatic 38, 3) := by decide +kernel
theorem d_JS_isLatin1_3 : decode prog_24_method_154_code 3 = .ok (.ifCond .eq 14, 3) := by decide +kernel
theorem d_JS_isLatin1_6 : decode prog_24_method_154_code 6 = .ok (.aload_n 0, 1) := by decide +kernel
theorem d_JS_isLatin1_7 : decode prog_24_method_154_code 7 = .ok (.getfield 15, 3) := by decide +kernel
theorem d_JS_isLatin1_10 : decode prog_24_method_154_code 10 = .ok (.ifCond .ne 7, 3) := by decide +kernel
theorem d_JS_isLatin1_13 : decode prog_24_method_154_code 13 = .ok (.iconst 1, 1) := by decide +kernel
theorem d_JS_isLatin1_14 : decode prog_24_method_154_code 14 = .ok (.goto 4, 3) := by decide +kernel
theorem d_JS_isLatin1_18 : decode prog_24_method_154_code 18 = .ok (.ireturn, 1) := by decide +kernel
theorem d_JS_checkIndex_0 : decode prog_24_method_155_code 0 = .ok (.iload_n 0, 1) := by decide +kernel
theorem d_JS_checkIndex_1 : decode prog_24_method_155_code 1 = .ok (.iload_n 1, 1) := by decide +kernel
theorem d_JS_checkIndex_2 : decode prog_24_method_155_code 2 = .ok (.getstatic 1053, 3) := by decide +kernel
theorem d_JS_checkIndex_5 : decode prog_24_method_155_code 5 = .ok (.invokestatic 1059, 3) := by decide +kernel
theorem d_JS_checkIndex_8 : decode prog_24_method_155_code 8 = .ok (.pop, 1) := by decide +kernel
theorem d_JS_checkIndex_9 : decode prog_24_method_155_code 9 = .ok (.return_, 1) := by decide +kernel
theorem d_JL_charAt_0 : decode prog_25_method_2_code 0 = .ok (.iload_n 1, 1) := by decide +kernel
theorem d_JL_charAt_1 : decode prog_25_method_2_code 1 = .ok (.aload_n 0, 1) := by decide +kernel
theorem d_JL_charAt_2 : decode prog_25_method_2_code 2 = .ok (.arraylength, 1) := by decide +kernel
theorem d_JL_charAt_3 : decode prog_25_method_2_code 3 = .ok (.invokestatic 9, 3) := by decide +kernel
theorem d_JL_charAt_6 : decode prog_25_method_2_code 6 = .ok (.aload_n 0, 1) := by decide +kernel
theorem d_JL_charAt_7 : decode prog_25_method_2_code 7 = .ok (.iload_n 1, 1) := by decide +kernel
theorem d_JL_charAt_8 : decode prog_25_method_2_code 8 = .ok (.baload, 1) := by decide +kernel
theorem d_JL_charAt_9 : decode prog_25_method_2_code 9 = .ok (.sipush 255, 3) := by decide +kernel
theorem d_JL_charAt_12 : decode prog_25_method_2_code 12 = .ok (.iand, 1) := by decide +kernel
theorem d_JL_charAt_13 : decode prog_25_method_2_code 13 = .ok (.i2c, 1) := by decide +kernel
theorem d_JL_charAt_14 : decode prog_25_method_2_code 14 = .ok (.ireturn, 1) := by decide +kernel
theorem d_JP_checkIndex_0 : decode prog_32_method_11_code 0 = .ok (.iload_n 0, 1) := by decide +kernel
theorem d_JP_checkIndex_1 : decode prog_32_method_11_code 1 = .ok (.ifCond .lt 8, 3) := by decide +kernel
theorem d_JP_checkIndex_4 : decode prog_32_method_11_code 4 = .ok (.iload_n 0, 1) := by decide +kernel
theorem d_JP_checkIndex_5 : decode prog_32_method_11_code 5 = .ok (.iload_n 1, 1) := by decide +kernel
theorem d_JP_checkIndex_6 : decode prog_32_method_11_code 6 = .ok (.if_icmp .lt 10, 3) := by decide +kernel
theorem d_JP_checkIndex_16 : decode prog_32_method_11_code 16 = .ok (.iload_n 0, 1) := by decide +kernel
theorem d_JP_checkIndex_17 : decode prog_32_method_11_code 17 = .ok (.ireturn, 1) := by decide +kernel
theorem d_JE_ordinal_0 : decode prog_18_method_2_code 0 = .ok (.aload_n 0, 1) := by decide +kernel
theorem d_JE_ordinal_1 : decode prog_18_method_2_code 1 = .ok (.getfield 7, 3) := by decide +kernel
theorem d_JE_ordinal_4 : decode prog_18_method_2_code 4 = .ok (.ireturn, 1) := by decide +kernel
