theorem d_String_length_1 : decode b_String_length 1 = .ok (.getfield 9, 3) := by decide +kernel
theorem d_String_length_4 : decode b_String_length 4 = .ok (.arraylength, 1) := by decide +kernel
theorem d_String_length_5 : decode b_String_length 5 = .ok (.aload_n 0, 1) := by decide +kernel
theorem d_String_length_6 : decode b_String_length 6 = .ok (.invokevirtual 335, 3) := by decide +kernel
theorem d_String_length_9 : decode b_String_length 9 = .ok (.ishr, 1) := by decide +kernel
theorem d_String_length_10 : decode b_String_length 10 = .ok (.ireturn, 1) := by decide +kernel
theorem d_String_charAt_0 : decode b_String_charAt 0 = .ok (.aload_n 0, 1) := by decide +kernel
theorem d_String_charAt_1 : decode b_String_charAt 1 = .ok (.invokevirtual 492, 3) := by decide +kernel
theorem d_String_charAt_4 : decode b_String_charAt 4 = .ok (.ifCond .eq 12, 3) := by decide +kernel
theorem d_String_charAt_7 : decode b_String_charAt 7 = .ok (.aload_n 0, 1) := by decide +kernel
theorem d_String_charAt_8 : decode b_String_charAt 8 = .ok (.getfield 9, 3) := by decide +kernel
theorem d_String_charAt_11 : decode b_String_charAt 11 = .ok (.iload_n 1, 1) := by decide +kernel
theorem d_String_charAt_12 : decode b_String_charAt 12 = .ok (.invokestatic 495, 3) := by decide +kernel
theorem d_String_charAt_15 : decode b_String_charAt 15 = .ok (.ireturn, 1) := by decide +kernel
theorem d_String_charAt_16 : decode b_String_charAt 16 = .ok (.aload_n 0, 1) := by decide +kernel
theorem d_String_charAt_17 : decode b_String_charAt 17 = .ok (.getfield 9, 3) := by decide +kernel
theorem d_String_charAt_20 : decode b_String_charAt 20 = .ok (.iload_n 1, 1) := by decide +kernel
theorem d_String_charAt_21 : decode b_String_charAt 21 = .ok (.invokestatic 498, 3) := by decide +kernel
theorem d_String_charAt_24 : decode b_String_charAt 24 = .ok (.ireturn, 1) := by decide +kernel
theorem d_String_coder_0 : decode b_String_coder 0 = .ok (.getstatic 38, 3) := by decide +kernel
theorem d_String_coder_3 : decode b_String_coder 3 = .ok (.ifCond .eq 10, 3) := by decide +kernel
theorem d_String_coder_6 : decode b_String_coder 6 = .ok (.aload_n 0, 1) := by decide +kernel
theorem d_String_coder_7 : decode b_String_coder 7 = .ok (.getfield 15, 3) := by decide +kernel
theorem d_String_coder_10 : decode b_String_coder 10 = .ok (.goto 4, 3) := by decide +kernel
theorem d_String_coder_13 : decode b_String_coder 13 = .ok (.iconst 1, 1) := by decide +kernel
theorem d_String_coder_14 : decode b_String_coder 14 = .ok (.ireturn, 1) := by decide +kernel
theorem d_String_isLatin1_0 : decode b_String_isLatin1 0 = .ok (.getstatic 38, 3) := by decide +kernel
theorem d_String_isLatin1_3 : decode b_String_isLatin1 3 = .ok (.ifCond .eq 14, 3) := by decide +kernel
theorem d_String_isLatin1_6 : decode b_String_isLatin1 6 = .ok (.aload_n 0, 1) := by decide +kernel
theorem d_String_isLatin1_7 : decode b_String_isLatin1 7 = .ok (.getfield 15, 3) := by decide +kernel
theorem d_String_isLatin1_10 : decode b_String_isLatin1 10 = .ok (.ifCond .ne 7, 3) := by decide +kernel
theorem d_String_isLatin1_13 : decode b_String_isLatin1 13 = .ok (.iconst 1, 1) := by decide +kernel
theorem d_String_isLatin1_14 : decode b_String_isLatin1 14 = .ok (.goto 4, 3) := by decide +kernel
theorem d_String_isLatin1_17 : decode b_String_isLatin1 17 = .ok (.iconst 0, 1) := by decide +kernel
theorem d_String_isLatin1_18 : decode b_String_isLatin1 18 = .ok (.ireturn, 1) := by decide +kernel
theorem d_String_checkIndex_0 : decode b_String_checkIndex 0 = .ok (.iload_n 0, 1) := by decide +kernel
theorem d_String_checkIndex_1 : decode b_String_checkIndex 1 = .ok (.iload_n 1, 1) := by decide +kernel
theorem d_String_checkIndex_2 : decode b_String_checkIndex 2 = .ok (.getstatic 1053, 3) := by decide +kernel
theorem d_String_checkIndex_5 : decode b_String_checkIndex 5 = .ok (.invokestatic 1059, 3) := by decide +kernel
theorem d_String_checkIndex_8 : decode b_String_checkIndex 8 = .ok (.pop, 1) := by decide +kernel
theorem d_String_checkIndex_9 : decode b_String_checkIndex 9 = .ok (.return_, 1) := by decide +kernel
theorem d_Latin_charAt_0 : decode b_Latin_charAt 0 = .ok (.iload_n 1, 1) := by decide +kernel
theorem d_Latin_charAt_1 : decode b_Latin_charAt 1 = .ok (.aload_n 0, 1) := by decide +kernel
theorem d_Latin_charAt_2 : decode b_Latin_charAt 2 = .ok (.arraylength, 1) := by decide +kernel
theorem d_Latin_charAt_3 : decode b_Latin_charAt 3 = .ok (.invokestatic 9, 3) := by decide +kernel
theorem d_Latin_charAt_6 : decode b_Latin_charAt 6 = .ok (.aload_n 0, 1) := by decide +kernel
theorem d_Latin_charAt_7 : decode b_Latin_charAt 7 = .ok (.iload_n 1, 1) := by decide +kernel
theorem d_Latin_charAt_8 : decode b_Latin_charAt 8 = .ok (.baload, 1) := by decide +kernel
theorem d_Latin_charAt_9 : decode b_Latin_charAt 9 = .ok (.sipush 255, 3) := by decide +kernel
theorem d_Latin_charAt_12 : decode b_Latin_charAt 12 = .ok (.iand, 1) := by decide +kernel
theorem d_Latin_charAt_13 : decode b_Latin_charAt 13 = .ok (.i2c, 1) := by decide +kernel
theorem d_Latin_charAt_14 : decode b_Latin_charAt 14 = .ok (.ireturn, 1) := by decide +kernel
theorem d_Utf_getChar_0 : decode b_Utf_getChar 0 = .ok (.getstatic 44, 3) := by decide +kernel
theorem d_Utf_getChar_3 : decode b_Utf_getChar 3 = .ok (.ifCond .ne 25, 3) := by decide +kernel
theorem d_Utf_getChar_6 : decode b_Utf_getChar 6 = .ok (.iload_n 1, 1) := by decide +kernel
theorem d_Utf_getChar_7 : decode b_Utf_getChar 7 = .ok (.ifCond .lt 11, 3) := by decide +kernel
theorem d_Utf_getChar_10 : decode b_Utf_getChar 10 = .ok (.iload_n 1, 1) := by decide +kernel
theorem d_Utf_getChar_11 : decode b_Utf_getChar 11 = .ok (.aload_n 0, 1) := by decide +kernel
theorem d_Utf_getChar_12 : decode b_Utf_getChar 12 = .ok (.invokestatic 48, 3) := by decide +kernel
theorem d_Utf_getChar_15 : decode b_Utf_getChar 15 = .ok (.if_icmp .lt 13, 3) := by decide +kernel
theorem d_Utf_getChar_18 : decode b_Utf_getChar 18 = .ok (.new 52, 3) := by decide +kernel
theorem d_Utf_getChar_21 : decode b_Utf_getChar 21 = .ok (.dup, 1) := by decide +kernel
theorem d_Utf_getChar_22 : decode b_Utf_getChar 22 = .ok (.ldc 54, 2) := by decide +kernel
theorem d_Utf_getChar_24 : decode b_Utf_getChar 24 = .ok (.invokespecial 56, 3) := by decide +kernel
theorem d_Utf_getChar_27 : decode b_Utf_getChar 27 = .ok (.athrow, 1) := by decide +kernel
theorem d_Utf_getChar_28 : decode b_Utf_getChar 28 = .ok (.iload_n 1, 1) := by decide +kernel
theorem d_Utf_getChar_29 : decode b_Utf_getChar 29 = .ok (.iconst 1, 1) := by decide +kernel
theorem d_Utf_getChar_30 : decode b_Utf_getChar 30 = .ok (.ishl, 1) := by decide +kernel
theorem d_Utf_getChar_31 : decode b_Utf_getChar 31 = .ok (.istore_n 1, 1) := by decide +kernel
theorem d_Utf_getChar_32 : decode b_Utf_getChar 32 = .ok (.aload_n 0, 1) := by decide +kernel
theorem d_Utf_getChar_33 : decode b_Utf_getChar 33 = .ok (.iload_n 1, 1) := by decide +kernel
theorem d_Utf_getChar_34 : decode b_Utf_getChar 34 = .ok (.iinc 1 1, 3) := by decide +kernel
theorem d_Utf_getChar_37 : decode b_Utf_getChar 37 = .ok (.baload, 1) := by decide +kernel
theorem d_Utf_getChar_38 : decode b_Utf_getChar 38 = .ok (.sipush 255, 3) := by decide +kernel
theorem d_Utf_getChar_41 : decode b_Utf_getChar 41 = .ok (.iand, 1) := by decide +kernel
theorem d_Utf_getChar_42 : decode b_Utf_getChar 42 = .ok (.getstatic 59, 3) := by decide +kernel
theorem d_Utf_getChar_45 : decode b_Utf_getChar 45 = .ok (.ishl, 1) := by decide +kernel
theorem d_Utf_getChar_46 : decode b_Utf_getChar 46 = .ok (.aload_n 0, 1) := by decide +kernel
theorem d_Utf_getChar_47 : decode b_Utf_getChar 47 = .ok (.iload_n 1, 1) := by decide +kernel
theorem d_Utf_getChar_48 : decode b_Utf_getChar 48 = .ok (.baload, 1) := by decide +kernel
theorem d_Utf_getChar_49 : decode b_Utf_getChar 49 = .ok (.sipush 255, 3) := by decide +kernel
theorem d_Utf_getChar_52 : decode b_Utf_getChar 52 = .ok (.iand, 1) := by decide +kernel
theorem d_Utf_getChar_53 : decode b_Utf_getChar 53 = .ok (.getstatic 63, 3) := by decide +kernel
theorem d_Utf_getChar_56 : decode b_Utf_getChar 56 = .ok (.ishl, 1) := by decide +kernel
theorem d_Utf_getChar_57 : decode b_Utf_getChar 57 = .ok (.ior, 1) := by decide +kernel
theorem d_Utf_getChar_58 : decode b_Utf_getChar 58 = .ok (.i2c, 1) := by decide +kernel
theorem d_Utf_getChar_59 : decode b_Utf_getChar 59 = .ok (.ireturn, 1) := by decide +kernel
theorem d_Utf_length_0 : decode b_Utf_length 0 = .ok (.aload_n 0, 1) := by decide +kernel
theorem d_Utf_length_1 : decode b_Utf_length 1 = .ok (.arraylength, 1) := by decide +kernel
theorem d_Utf_length_2 : decode b_Utf_length 2 = .ok (.iconst 1, 1) := by decide +kernel
theorem d_Utf_length_3 : decode b_Utf_length 3 = .ok (.ishr, 1) := by decide +kernel
theorem d_Utf_length_4 : decode b_Utf_length 4 = .ok (.ireturn, 1) := by decide +kernel
theorem d_Utf_charAt_0 : decode b_Utf_charAt 0 = .ok (.iload_n 1, 1) := by decide +kernel
theorem d_Utf_charAt_1 : decode b_Utf_charAt 1 = .ok (.aload_n 0, 1) := by decide +kernel
theorem d_Utf_charAt_2 : decode b_Utf_charAt 2 = .ok (.invokestatic 67, 3) := by decide +kernel
theorem d_Utf_charAt_5 : decode b_Utf_charAt 5 = .ok (.aload_n 0, 1) := by decide +kernel
theorem d_Utf_charAt_6 : decode b_Utf_charAt 6 = .ok (.iload_n 1, 1) := by decide +kernel
theorem d_Utf_charAt_7 : decode b_Utf_charAt 7 = .ok (.invokestatic 71, 3) := by decide +kernel
theorem d_Utf_charAt_10 : decode b_Utf_charAt 10 = .ok (.ireturn, 1) := by decide +kernel
theorem d_Utf_checkIndex_0 : decode b_Utf_checkIndex 0 = .ok (.iload_n 0, 1) := by decide +kernel
theorem d_Utf_checkIndex_1 : decode b_Utf_checkIndex 1 = .ok (.aload_n 1, 1) := by decide +kernel
theorem d_Utf_checkIndex_2 : decode b_Utf_checkIndex 2 = .ok (.invokestatic 48, 3) := by decide +kernel
theorem d_Utf_checkIndex_5 : decode b_Utf_checkIndex 5 = .ok (.invokestatic 414, 3) := by decide +kernel
theorem d_Utf_checkIndex_8 : decode b_Utf_checkIndex 8 = .ok (.return_, 1) := by decide +kernel
theorem d_Arrays_fillL_0 : decode b_Arrays_fillL 0 = .ok (.iconst 0, 1) := by decide +kernel
theorem d_Arrays_fillL_1 : decode b_Arrays_fillL 1 = .ok (.istore_n 3, 1) := by decide +kernel
theorem d_Arrays_fillL_2 : decode b_Arrays_fillL 2 = .ok (.aload_n 0, 1) := by decide +kernel
theorem d_Arrays_fillL_3 : decode b_Arrays_fillL 3 = .ok (.arraylength, 1) := by decide +kernel
theorem d_Arrays_fillL_4 : decode b_Arrays_fillL 4 = .ok (.istore 4, 2) := by decide +kernel
theorem d_Arrays_fillL_6 : decode b_Arrays_fillL 6 = .ok (.iload_n 3, 1) := by decide +kernel
theorem d_Arrays_fillL_7 : decode b_Arrays_fillL 7 = .ok (.iload 4, 2) := by decide +kernel
theorem d_Arrays_fillL_9 : decode b_Arrays_fillL 9 = .ok (.if_icmp .ge 13, 3) := by decide +kernel
theorem d_Arrays_fillL_12 : decode b_Arrays_fillL 12 = .ok (.aload_n 0, 1) := by decide +kernel
theorem d_Arrays_fillL_13 : decode b_Arrays_fillL 13 = .ok (.iload_n 3, 1) := by decide +kernel
theorem d_Arrays_fillL_14 : decode b_Arrays_fillL 14 = .ok (.lload_n 1, 1) := by decide +kernel
theorem d_Arrays_fillL_15 : decode b_Arrays_fillL 15 = .ok (.lastore, 1) := by decide +kernel
theorem d_Arrays_fillL_16 : decode b_Arrays_fillL 16 = .ok (.iinc 3 1, 3) := by decide +kernel
theorem d_Arrays_fillL_19 : decode b_Arrays_fillL 19 = .ok (.goto (-13), 3) := by decide +kernel
theorem d_Arrays_fillL_22 : decode b_Arrays_fillL 22 = .ok (.return_, 1) := by decide +kernel
theorem d_Arrays_fillI_0 : decode b_Arrays_fillI 0 = .ok (.iconst 0, 1) := by decide +kernel
theorem d_Arrays_fillI_1 : decode b_Arrays_fillI 1 = .ok (.istore_n 2, 1) := by decide +kernel
theorem d_Arrays_fillI_2 : decode b_Arrays_fillI 2 = .ok (.aload_n 0, 1) := by decide +kernel
theorem d_Arrays_fillI_3 : decode b_Arrays_fillI 3 = .ok (.arraylength, 1) := by decide +kernel
theorem d_Arrays_fillI_4 : decode b_Arrays_fillI 4 = .ok (.istore_n 3, 1) := by decide +kernel
theorem d_Arrays_fillI_5 : decode b_Arrays_fillI 5 = .ok (.iload_n 2, 1) := by decide +kernel
theorem d_Arrays_fillI_6 : decode b_Arrays_fillI 6 = .ok (.iload_n 3, 1) := by decide +kernel
theorem d_Arrays_fillI_7 : decode b_Arrays_fillI 7 = .ok (.if_icmp .ge 13, 3) := by decide +kernel
theorem d_Arrays_fillI_10 : decode b_Arrays_fillI 10 = .ok (.aload_n 0, 1) := by decide +kernel
theorem d_Arrays_fillI_11 : decode b_Arrays_fillI 11 = .ok (.iload_n 2, 1) := by decide +kernel
theorem d_Arrays_fillI_12 : decode b_Arrays_fillI 12 = .ok (.iload_n 1, 1) := by decide +kernel
theorem d_Arrays_fillI_13 : decode b_Arrays_fillI 13 = .ok (.iastore, 1) := by decide +kernel
theorem d_Arrays_fillI_14 : decode b_Arrays_fillI 14 = .ok (.iinc 2 1, 3) := by decide +kernel
theorem d_Arrays_fillI_17 : decode b_Arrays_fillI 17 = .ok (.goto (-12), 3) := by decide +kernel
theorem d_Arrays_fillI_20 : decode b_Arrays_fillI 20 = .ok (.return_, 1) := by decide +kernel
theorem d_Pre_checkIndex_0 : decode b_Pre_checkIndex 0 = .ok (.iload_n 0, 1) := by decide +kernel
theorem d_Pre_checkIndex_1 : decode b_Pre_checkIndex 1 = .ok (.ifCond .lt 8, 3) := by decide +kernel
theorem d_Pre_checkIndex_4 : decode b_Pre_checkIndex 4 = .ok (.iload_n 0, 1) := by decide +kernel
theorem d_Pre_checkIndex_5 : decode b_Pre_checkIndex 5 = .ok (.iload_n 1, 1) := by decide +kernel
theorem d_Pre_checkIndex_6 : decode b_Pre_checkIndex 6 = .ok (.if_icmp .lt 10, 3) := by decide +kernel
theorem d_Pre_checkIndex_9 : decode b_Pre_checkIndex 9 = .ok (.aload_n 2, 1) := by decide +kernel
theorem d_Pre_checkIndex_10 : decode b_Pre_checkIndex 10 = .ok (.iload_n 0, 1) := by decide +kernel
theorem d_Pre_checkIndex_11 : decode b_Pre_checkIndex 11 = .ok (.iload_n 1, 1) := by decide +kernel
theorem d_Pre_checkIndex_12 : decode b_Pre_checkIndex 12 = .ok (.invokestatic 95, 3) := by decide +kernel
theorem d_Pre_checkIndex_15 : decode b_Pre_checkIndex 15 = .ok (.athrow, 1) := by decide +kernel
theorem d_Pre_checkIndex_16 : decode b_Pre_checkIndex 16 = .ok (.iload_n 0, 1) := by decide +kernel
theorem d_Pre_checkIndex_17 : decode b_Pre_checkIndex 17 = .ok (.ireturn, 1) := by decide +kernel
theorem d_Law_law_0 : decode b_Law_law 0 = .ok (.new 7, 3) := by decide +kernel
theorem d_Law_law_3 : decode b_Law_law 3 = .ok (.dup, 1) := by decide +kernel
theorem d_Law_law_4 : decode b_Law_law 4 = .ok (.invokespecial 9, 3) := by decide +kernel
theorem d_Law_law_7 : decode b_Law_law 7 = .ok (.astore_n 1, 1) := by decide +kernel
theorem d_Law_law_8 : decode b_Law_law 8 = .ok (.new 10, 3) := by decide +kernel
theorem d_Law_law_11 : decode b_Law_law 11 = .ok (.dup, 1) := by decide +kernel
theorem d_Law_law_12 : decode b_Law_law 12 = .ok (.invokespecial 12, 3) := by decide +kernel
theorem d_Law_law_15 : decode b_Law_law 15 = .ok (.astore_n 2, 1) := by decide +kernel
theorem d_Law_law_16 : decode b_Law_law 16 = .ok (.iconst 0, 1) := by decide +kernel
theorem d_Law_law_17 : decode b_Law_law 17 = .ok (.istore_n 3, 1) := by decide +kernel
theorem d_Law_law_18 : decode b_Law_law 18 = .ok (.iload_n 3, 1) := by decide +kernel
theorem d_Law_law_19 : decode b_Law_law 19 = .ok (.aload_n 0, 1) := by decide +kernel
theorem d_Law_law_20 : decode b_Law_law 20 = .ok (.arraylength, 1) := by decide +kernel
theorem d_Law_law_21 : decode b_Law_law 21 = .ok (.bipush 6, 2) := by decide +kernel
theorem d_Law_law_23 : decode b_Law_law 23 = .ok (.isub, 1) := by decide +kernel
theorem d_Law_law_24 : decode b_Law_law 24 = .ok (.if_icmp .gt 938, 3) := by decide +kernel
theorem d_Law_law_27 : decode b_Law_law 27 = .ok (.aload_n 0, 1) := by decide +kernel
theorem d_Law_law_28 : decode b_Law_law 28 = .ok (.iload_n 3, 1) := by decide +kernel
theorem d_Law_law_29 : decode b_Law_law 29 = .ok (.iaload, 1) := by decide +kernel
theorem d_Law_law_30 : decode b_Law_law 30 = .ok (.bipush 31, 2) := by decide +kernel
theorem d_Law_law_32 : decode b_Law_law 32 = .ok (.iand, 1) := by decide +kernel
theorem d_Law_law_33 : decode b_Law_law 33 = .ok (.tableswitch 923 0 25 #[119, 152, 195, 228, 277, 340, 363, 376, 389, 412, 445, 468, 491, 514, 537, 570, 613, 646, 679, 702, 715, 758, 801, 844, 867, 900], 119) := by decide +kernel
theorem d_Law_law_152 : decode b_Law_law 152 = .ok (.aload_n 1, 1) := by decide +kernel
theorem d_Law_law_153 : decode b_Law_law 153 = .ok (.aload_n 0, 1) := by decide +kernel
theorem d_Law_law_154 : decode b_Law_law 154 = .ok (.iload_n 3, 1) := by decide +kernel
theorem d_Law_law_155 : decode b_Law_law 155 = .ok (.iconst 1, 1) := by decide +kernel
theorem d_Law_law_156 : decode b_Law_law 156 = .ok (.iadd, 1) := by decide +kernel
theorem d_Law_law_157 : decode b_Law_law 157 = .ok (.iaload, 1) := by decide +kernel
theorem d_Law_law_158 : decode b_Law_law 158 = .ok (.aload_n 0, 1) := by decide +kernel
theorem d_Law_law_159 : decode b_Law_law 159 = .ok (.iload_n 3, 1) := by decide +kernel
theorem d_Law_law_160 : decode b_Law_law 160 = .ok (.iconst 2, 1) := by decide +kernel
theorem d_Law_law_161 : decode b_Law_law 161 = .ok (.iadd, 1) := by decide +kernel
theorem d_Law_law_162 : decode b_Law_law 162 = .ok (.iaload, 1) := by decide +kernel
theorem d_Law_law_163 : decode b_Law_law 163 = .ok (.invokevirtual 13, 3) := by decide +kernel
theorem d_Law_law_166 : decode b_Law_law 166 = .ok (.aload_n 2, 1) := by decide +kernel
theorem d_Law_law_167 : decode b_Law_law 167 = .ok (.aload_n 0, 1) := by decide +kernel
theorem d_Law_law_168 : decode b_Law_law 168 = .ok (.iload_n 3, 1) := by decide +kernel
theorem d_Law_law_169 : decode b_Law_law 169 = .ok (.iconst 1, 1) := by decide +kernel
theorem d_Law_law_170 : decode b_Law_law 170 = .ok (.iadd, 1) := by decide +kernel
theorem d_Law_law_171 : decode b_Law_law 171 = .ok (.iaload, 1) := by decide +kernel
theorem d_Law_law_172 : decode b_Law_law 172 = .ok (.aload_n 0, 1) := by decide +kernel
theorem d_Law_law_173 : decode b_Law_law 173 = .ok (.iload_n 3, 1) := by decide +kernel
theorem d_Law_law_174 : decode b_Law_law 174 = .ok (.iconst 2, 1) := by decide +kernel
theorem d_Law_law_175 : decode b_Law_law 175 = .ok (.iadd, 1) := by decide +kernel
theorem d_Law_law_176 : decode b_Law_law 176 = .ok (.iaload, 1) := by decide +kernel
theorem d_Law_law_177 : decode b_Law_law 177 = .ok (.invokevirtual 17, 3) := by decide +kernel
theorem d_Law_law_180 : decode b_Law_law 180 = .ok (.if_icmp .eq 776, 3) := by decide +kernel
theorem d_Law_law_183 : decode b_Law_law 183 = .ok (.iconst 0, 1) := by decide +kernel
theorem d_Law_law_184 : decode b_Law_law 184 = .ok (.ireturn, 1) := by decide +kernel
theorem d_Law_law_185 : decode b_Law_law 185 = .ok (.aload_n 1, 1) := by decide +kernel
theorem d_Law_law_186 : decode b_Law_law 186 = .ok (.aload_n 0, 1) := by decide +kernel
theorem d_Law_law_187 : decode b_Law_law 187 = .ok (.iload_n 3, 1) := by decide +kernel
theorem d_Law_law_188 : decode b_Law_law 188 = .ok (.iconst 1, 1) := by decide +kernel
theorem d_Law_law_189 : decode b_Law_law 189 = .ok (.iadd, 1) := by decide +kernel
theorem d_Law_law_190 : decode b_Law_law 190 = .ok (.iaload, 1) := by decide +kernel
theorem d_Law_law_191 : decode b_Law_law 191 = .ok (.aload_n 0, 1) := by decide +kernel
theorem d_Law_law_192 : decode b_Law_law 192 = .ok (.iload_n 3, 1) := by decide +kernel
theorem d_Law_law_193 : decode b_Law_law 193 = .ok (.iconst 2, 1) := by decide +kernel
theorem d_Law_law_194 : decode b_Law_law 194 = .ok (.iadd, 1) := by decide +kernel
theorem d_Law_law_195 : decode b_Law_law 195 = .ok (.iaload, 1) := by decide +kernel
theorem d_Law_law_196 : decode b_Law_law 196 = .ok (.aload_n 0, 1) := by decide +kernel
theorem d_Law_law_197 : decode b_Law_law 197 = .ok (.iload_n 3, 1) := by decide +kernel
theorem d_Law_law_198 : decode b_Law_law 198 = .ok (.iconst 3, 1) := by decide +kernel
theorem d_Law_law_199 : decode b_Law_law 199 = .ok (.iadd, 1) := by decide +kernel
theorem d_Law_law_200 : decode b_Law_law 200 = .ok (.iaload, 1) := by decide +kernel
theorem d_Law_law_201 : decode b_Law_law 201 = .ok (.invokevirtual 18, 3) := by decide +kernel
theorem d_Law_law_204 : decode b_Law_law 204 = .ok (.aload_n 2, 1) := by decide +kernel
theorem d_Law_law_205 : decode b_Law_law 205 = .ok (.aload_n 0, 1) := by decide +kernel
theorem d_Law_law_206 : decode b_Law_law 206 = .ok (.iload_n 3, 1) := by decide +kernel
theorem d_Law_law_207 : decode b_Law_law 207 = .ok (.iconst 1, 1) := by decide +kernel
theorem d_Law_law_208 : decode b_Law_law 208 = .ok (.iadd, 1) := by decide +kernel
theorem d_Law_law_209 : decode b_Law_law 209 = .ok (.iaload, 1) := by decide +kernel
theorem d_Law_law_210 : decode b_Law_law 210 = .ok (.aload_n 0, 1) := by decide +kernel
theorem d_Law_law_211 : decode b_Law_law 211 = .ok (.iload_n 3, 1) := by decide +kernel
theorem d_Law_law_212 : decode b_Law_law 212 = .ok (.iconst 2, 1) := by decide +kernel
theorem d_Law_law_213 : decode b_Law_law 213 = .ok (.iadd, 1) := by decide +kernel
theorem d_Law_law_214 : decode b_Law_law 214 = .ok (.iaload, 1) := by decide +kernel
theorem d_Law_law_215 : decode b_Law_law 215 = .ok (.aload_n 0, 1) := by decide +kernel
theorem d_Law_law_216 : decode b_Law_law 216 = .ok (.iload_n 3, 1) := by decide +kernel
theorem d_Law_law_217 : decode b_Law_law 217 = .ok (.iconst 3, 1) := by decide +kernel
theorem d_Law_law_218 : decode b_Law_law 218 = .ok (.iadd, 1) := by decide +kernel
theorem d_Law_law_219 : decode b_Law_law 219 = .ok (.iaload, 1) := by decide +kernel
theorem d_Law_law_220 : decode b_Law_law 220 = .ok (.invokevirtual 22, 3) := by decide +kernel
theorem d_Law_law_223 : decode b_Law_law 223 = .ok (.if_icmp .eq 733, 3) := by decide +kernel
theorem d_Law_law_226 : decode b_Law_law 226 = .ok (.iconst 0, 1) := by decide +kernel
theorem d_Law_law_227 : decode b_Law_law 227 = .ok (.ireturn, 1) := by decide +kernel
theorem d_Law_law_228 : decode b_Law_law 228 = .ok (.aload_n 1, 1) := by decide +kernel
theorem d_Law_law_229 : decode b_Law_law 229 = .ok (.aload_n 0, 1) := by decide +kernel
theorem d_Law_law_230 : decode b_Law_law 230 = .ok (.iload_n 3, 1) := by decide +kernel
theorem d_Law_law_231 : decode b_Law_law 231 = .ok (.iconst 1, 1) := by decide +kernel
theorem d_Law_law_232 : decode b_Law_law 232 = .ok (.iadd, 1) := by decide +kernel
theorem d_Law_law_233 : decode b_Law_law 233 = .ok (.iaload, 1) := by decide +kernel
theorem d_Law_law_234 : decode b_Law_law 234 = .ok (.aload_n 0, 1) := by decide +kernel
theorem d_Law_law_235 : decode b_Law_law 235 = .ok (.iload_n 3, 1) := by decide +kernel
theorem d_Law_law_236 : decode b_Law_law 236 = .ok (.iconst 2, 1) := by decide +kernel
theorem d_Law_law_237 : decode b_Law_law 237 = .ok (.iadd, 1) := by decide +kernel
theorem d_Law_law_238 : decode b_Law_law 238 = .ok (.iaload, 1) := by decide +kernel
theorem d_Law_law_239 : decode b_Law_law 239 = .ok (.invokevirtual 23, 3) := by decide +kernel
theorem d_Law_law_242 : decode b_Law_law 242 = .ok (.aload_n 2, 1) := by decide +kernel
theorem d_Law_law_243 : decode b_Law_law 243 = .ok (.aload_n 0, 1) := by decide +kernel
theorem d_Law_law_244 : decode b_Law_law 244 = .ok (.iload_n 3, 1) := by decide +kernel
theorem d_Law_law_245 : decode b_Law_law 245 = .ok (.iconst 1, 1) := by decide +kernel
theorem d_Law_law_246 : decode b_Law_law 246 = .ok (.iadd, 1) := by decide +kernel
theorem d_Law_law_247 : decode b_Law_law 247 = .ok (.iaload, 1) := by decide +kernel
theorem d_Law_law_248 : decode b_Law_law 248 = .ok (.aload_n 0, 1) := by decide +kernel
theorem d_Law_law_249 : decode b_Law_law 249 = .ok (.iload_n 3, 1) := by decide +kernel
theorem d_Law_law_250 : decode b_Law_law 250 = .ok (.iconst 2, 1) := by decide +kernel
theorem d_Law_law_251 : decode b_Law_law 251 = .ok (.iadd, 1) := by decide +kernel
theorem d_Law_law_252 : decode b_Law_law 252 = .ok (.iaload, 1) := by decide +kernel
theorem d_Law_law_253 : decode b_Law_law 253 = .ok (.invokevirtual 26, 3) := by decide +kernel
theorem d_Law_law_256 : decode b_Law_law 256 = .ok (.if_icmp .eq 700, 3) := by decide +kernel
theorem d_Law_law_259 : decode b_Law_law 259 = .ok (.iconst 0, 1) := by decide +kernel
theorem d_Law_law_260 : decode b_Law_law 260 = .ok (.ireturn, 1) := by decide +kernel
theorem d_Law_law_261 : decode b_Law_law 261 = .ok (.aload_n 1, 1) := by decide +kernel
theorem d_Law_law_262 : decode b_Law_law 262 = .ok (.aload_n 0, 1) := by decide +kernel
theorem d_Law_law_263 : decode b_Law_law 263 = .ok (.iload_n 3, 1) := by decide +kernel
theorem d_Law_law_264 : decode b_Law_law 264 = .ok (.iconst 1, 1) := by decide +kernel
theorem d_Law_law_265 : decode b_Law_law 265 = .ok (.iadd, 1) := by decide +kernel
theorem d_Law_law_266 : decode b_Law_law 266 = .ok (.iaload, 1) := by decide +kernel
theorem d_Law_law_267 : decode b_Law_law 267 = .ok (.aload_n 0, 1) := by decide +kernel
theorem d_Law_law_268 : decode b_Law_law 268 = .ok (.iload_n 3, 1) := by decide +kernel
theorem d_Law_law_269 : decode b_Law_law 269 = .ok (.iconst 2, 1) := by decide +kernel
theorem d_Law_law_270 : decode b_Law_law 270 = .ok (.iadd, 1) := by decide +kernel
theorem d_Law_law_271 : decode b_Law_law 271 = .ok (.iaload, 1) := by decide +kernel
theorem d_Law_law_272 : decode b_Law_law 272 = .ok (.ifCond .eq 7, 3) := by decide +kernel
theorem d_Law_law_275 : decode b_Law_law 275 = .ok (.iconst 1, 1) := by decide +kernel
theorem d_Law_law_276 : decode b_Law_law 276 = .ok (.goto 4, 3) := by decide +kernel
theorem d_Law_law_279 : decode b_Law_law 279 = .ok (.iconst 0, 1) := by decide +kernel
theorem d_Law_law_280 : decode b_Law_law 280 = .ok (.invokevirtual 27, 3) := by decide +kernel
theorem d_Law_law_283 : decode b_Law_law 283 = .ok (.aload_n 2, 1) := by decide +kernel
theorem d_Law_law_284 : decode b_Law_law 284 = .ok (.aload_n 0, 1) := by decide +kernel
theorem d_Law_law_285 : decode b_Law_law 285 = .ok (.iload_n 3, 1) := by decide +kernel
theorem d_Law_law_286 : decode b_Law_law 286 = .ok (.iconst 1, 1) := by decide +kernel
theorem d_Law_law_287 : decode b_Law_law 287 = .ok (.iadd, 1) := by decide +kernel
theorem d_Law_law_288 : decode b_Law_law 288 = .ok (.iaload, 1) := by decide +kernel
theorem d_Law_law_289 : decode b_Law_law 289 = .ok (.aload_n 0, 1) := by decide +kernel
theorem d_Law_law_290 : decode b_Law_law 290 = .ok (.iload_n 3, 1) := by decide +kernel
theorem d_Law_law_291 : decode b_Law_law 291 = .ok (.iconst 2, 1) := by decide +kernel
theorem d_Law_law_292 : decode b_Law_law 292 = .ok (.iadd, 1) := by decide +kernel
theorem d_Law_law_293 : decode b_Law_law 293 = .ok (.iaload, 1) := by decide +kernel
theorem d_Law_law_294 : decode b_Law_law 294 = .ok (.ifCond .eq 7, 3) := by decide +kernel
theorem d_Law_law_297 : decode b_Law_law 297 = .ok (.iconst 1, 1) := by decide +kernel
theorem d_Law_law_298 : decode b_Law_law 298 = .ok (.goto 4, 3) := by decide +kernel
theorem d_Law_law_301 : decode b_Law_law 301 = .ok (.iconst 0, 1) := by decide +kernel
theorem d_Law_law_302 : decode b_Law_law 302 = .ok (.invokevirtual 31, 3) := by decide +kernel
theorem d_Law_law_305 : decode b_Law_law 305 = .ok (.if_icmp .eq 651, 3) := by decide +kernel
theorem d_Law_law_308 : decode b_Law_law 308 = .ok (.iconst 0, 1) := by decide +kernel
theorem d_Law_law_309 : decode b_Law_law 309 = .ok (.ireturn, 1) := by decide +kernel
theorem d_Law_law_310 : decode b_Law_law 310 = .ok (.aload_n 1, 1) := by decide +kernel
theorem d_Law_law_311 : decode b_Law_law 311 = .ok (.aload_n 0, 1) := by decide +kernel
theorem d_Law_law_312 : decode b_Law_law 312 = .ok (.iload_n 3, 1) := by decide +kernel
theorem d_Law_law_313 : decode b_Law_law 313 = .ok (.iconst 1, 1) := by decide +kernel
theorem d_Law_law_314 : decode b_Law_law 314 = .ok (.iadd, 1) := by decide +kernel
theorem d_Law_law_315 : decode b_Law_law 315 = .ok (.iaload, 1) := by decide +kernel
theorem d_Law_law_316 : decode b_Law_law 316 = .ok (.aload_n 0, 1) := by decide +kernel
theorem d_Law_law_317 : decode b_Law_law 317 = .ok (.iload_n 3, 1) := by decide +kernel
theorem d_Law_law_318 : decode b_Law_law 318 = .ok (.iconst 2, 1) := by decide +kernel
theorem d_Law_law_319 : decode b_Law_law 319 = .ok (.iadd, 1) := by decide +kernel
theorem d_Law_law_320 : decode b_Law_law 320 = .ok (.iaload, 1) := by decide +kernel
theorem d_Law_law_321 : decode b_Law_law 321 = .ok (.aload_n 0, 1) := by decide +kernel
theorem d_Law_law_322 : decode b_Law_law 322 = .ok (.iload_n 3, 1) := by decide +kernel
theorem d_Law_law_323 : decode b_Law_law 323 = .ok (.iconst 3, 1) := by decide +kernel
theorem d_Law_law_324 : decode b_Law_law 324 = .ok (.iadd, 1) := by decide +kernel
theorem d_Law_law_325 : decode b_Law_law 325 = .ok (.iaload, 1) := by decide +kernel
theorem d_Law_law_326 : decode b_Law_law 326 = .ok (.aload_n 0, 1) := by decide +kernel
theorem d_Law_law_327 : decode b_Law_law 327 = .ok (.iload_n 3, 1) := by decide +kernel
theorem d_Law_law_328 : decode b_Law_law 328 = .ok (.iconst 4, 1) := by decide +kernel
theorem d_Law_law_329 : decode b_Law_law 329 = .ok (.iadd, 1) := by decide +kernel
theorem d_Law_law_330 : decode b_Law_law 330 = .ok (.iaload, 1) := by decide +kernel
theorem d_Law_law_331 : decode b_Law_law 331 = .ok (.aload_n 0, 1) := by decide +kernel
theorem d_Law_law_332 : decode b_Law_law 332 = .ok (.iload_n 3, 1) := by decide +kernel
theorem d_Law_law_333 : decode b_Law_law 333 = .ok (.iconst 5, 1) := by decide +kernel
theorem d_Law_law_334 : decode b_Law_law 334 = .ok (.iadd, 1) := by decide +kernel
theorem d_Law_law_335 : decode b_Law_law 335 = .ok (.iaload, 1) := by decide +kernel
theorem d_Law_law_336 : decode b_Law_law 336 = .ok (.invokevirtual 32, 3) := by decide +kernel
theorem d_Law_law_339 : decode b_Law_law 339 = .ok (.aload_n 2, 1) := by decide +kernel
theorem d_Law_law_340 : decode b_Law_law 340 = .ok (.aload_n 0, 1) := by decide +kernel
theorem d_Law_law_341 : decode b_Law_law 341 = .ok (.iload_n 3, 1) := by decide +kernel
theorem d_Law_law_342 : decode b_Law_law 342 = .ok (.iconst 1, 1) := by decide +kernel
theorem d_Law_law_343 : decode b_Law_law 343 = .ok (.iadd, 1) := by decide +kernel
theorem d_Law_law_344 : decode b_Law_law 344 = .ok (.iaload, 1) := by decide +kernel
theorem d_Law_law_345 : decode b_Law_law 345 = .ok (.aload_n 0, 1) := by decide +kernel
theorem d_Law_law_346 : decode b_Law_law 346 = .ok (.iload_n 3, 1) := by decide +kernel
theorem d_Law_law_347 : decode b_Law_law 347 = .ok (.iconst 2, 1) := by decide +kernel
theorem d_Law_law_348 : decode b_Law_law 348 = .ok (.iadd, 1) := by decide +kernel
theorem d_Law_law_349 : decode b_Law_law 349 = .ok (.iaload, 1) := by decide +kernel
theorem d_Law_law_350 : decode b_Law_law 350 = .ok (.aload_n 0, 1) := by decide +kernel
theorem d_Law_law_351 : decode b_Law_law 351 = .ok (.iload_n 3, 1) := by decide +kernel
theorem d_Law_law_352 : decode b_Law_law 352 = .ok (.iconst 3, 1) := by decide +kernel
theorem d_Law_law_353 : decode b_Law_law 353 = .ok (.iadd, 1) := by decide +kernel
theorem d_Law_law_354 : decode b_Law_law 354 = .ok (.iaload, 1) := by decide +kernel
theorem d_Law_law_355 : decode b_Law_law 355 = .ok (.aload_n 0, 1) := by decide +kernel
theorem d_Law_law_356 : decode b_Law_law 356 = .ok (.iload_n 3, 1) := by decide +kernel
theorem d_Law_law_357 : decode b_Law_law 357 = .ok (.iconst 4, 1) := by decide +kernel
theorem d_Law_law_358 : decode b_Law_law 358 = .ok (.iadd, 1) := by decide +kernel
theorem d_Law_law_359 : decode b_Law_law 359 = .ok (.iaload, 1) := by decide +kernel
theorem d_Law_law_360 : decode b_Law_law 360 = .ok (.aload_n 0, 1) := by decide +kernel
theorem d_Law_law_361 : decode b_Law_law 361 = .ok (.iload_n 3, 1) := by decide +kernel
theorem d_Law_law_362 : decode b_Law_law 362 = .ok (.iconst 5, 1) := by decide +kernel
theorem d_Law_law_363 : decode b_Law_law 363 = .ok (.iadd, 1) := by decide +kernel
theorem d_Law_law_364 : decode b_Law_law 364 = .ok (.iaload, 1) := by decide +kernel
theorem d_Law_law_365 : decode b_Law_law 365 = .ok (.invokevirtual 36, 3) := by decide +kernel
theorem d_Law_law_368 : decode b_Law_law 368 = .ok (.if_icmp .eq 588, 3) := by decide +kernel
theorem d_Law_law_371 : decode b_Law_law 371 = .ok (.iconst 0, 1) := by decide +kernel
theorem d_Law_law_372 : decode b_Law_law 372 = .ok (.ireturn, 1) := by decide +kernel
theorem d_Law_law_373 : decode b_Law_law 373 = .ok (.aload_n 1, 1) := by decide +kernel
theorem d_Law_law_374 : decode b_Law_law 374 = .ok (.aload_n 0, 1) := by decide +kernel
theorem d_Law_law_375 : decode b_Law_law 375 = .ok (.iload_n 3, 1) := by decide +kernel
theorem d_Law_law_376 : decode b_Law_law 376 = .ok (.iconst 1, 1) := by decide +kernel
theorem d_Law_law_377 : decode b_Law_law 377 = .ok (.iadd, 1) := by decide +kernel
theorem d_Law_law_378 : decode b_Law_law 378 = .ok (.iaload, 1) := by decide +kernel
theorem d_Law_law_379 : decode b_Law_law 379 = .ok (.invokevirtual 37, 3) := by decide +kernel
theorem d_Law_law_382 : decode b_Law_law 382 = .ok (.aload_n 2, 1) := by decide +kernel
theorem d_Law_law_383 : decode b_Law_law 383 = .ok (.aload_n 0, 1) := by decide +kernel
theorem d_Law_law_384 : decode b_Law_law 384 = .ok (.iload_n 3, 1) := by decide +kernel
theorem d_Law_law_385 : decode b_Law_law 385 = .ok (.iconst 1, 1) := by decide +kernel
theorem d_Law_law_386 : decode b_Law_law 386 = .ok (.iadd, 1) := by decide +kernel
theorem d_Law_law_387 : decode b_Law_law 387 = .ok (.iaload, 1) := by decide +kernel
theorem d_Law_law_388 : decode b_Law_law 388 = .ok (.invokevirtual 41, 3) := by decide +kernel
theorem d_Law_law_391 : decode b_Law_law 391 = .ok (.if_icmp .eq 565, 3) := by decide +kernel
theorem d_Law_law_394 : decode b_Law_law 394 = .ok (.iconst 0, 1) := by decide +kernel
theorem d_Law_law_395 : decode b_Law_law 395 = .ok (.ireturn, 1) := by decide +kernel
theorem d_Law_law_396 : decode b_Law_law 396 = .ok (.aload_n 1, 1) := by decide +kernel
theorem d_Law_law_397 : decode b_Law_law 397 = .ok (.invokevirtual 42, 3) := by decide +kernel
theorem d_Law_law_400 : decode b_Law_law 400 = .ok (.aload_n 2, 1) := by decide +kernel
theorem d_Law_law_401 : decode b_Law_law 401 = .ok (.invokevirtual 46, 3) := by decide +kernel
theorem d_Law_law_404 : decode b_Law_law 404 = .ok (.if_icmp .eq 552, 3) := by decide +kernel
theorem d_Law_law_407 : decode b_Law_law 407 = .ok (.iconst 0, 1) := by decide +kernel
theorem d_Law_law_408 : decode b_Law_law 408 = .ok (.ireturn, 1) := by decide +kernel
theorem d_Law_law_409 : decode b_Law_law 409 = .ok (.aload_n 1, 1) := by decide +kernel
theorem d_Law_law_410 : decode b_Law_law 410 = .ok (.invokevirtual 47, 3) := by decide +kernel
theorem d_Law_law_413 : decode b_Law_law 413 = .ok (.aload_n 2, 1) := by decide +kernel
theorem d_Law_law_414 : decode b_Law_law 414 = .ok (.invokevirtual 50, 3) := by decide +kernel
theorem d_Law_law_417 : decode b_Law_law 417 = .ok (.if_icmp .eq 539, 3) := by decide +kernel
theorem d_Law_law_420 : decode b_Law_law 420 = .ok (.iconst 0, 1) := by decide +kernel
theorem d_Law_law_421 : decode b_Law_law 421 = .ok (.ireturn, 1) := by decide +kernel
theorem d_Law_law_422 : decode b_Law_law 422 = .ok (.aload_n 1, 1) := by decide +kernel
theorem d_Law_law_423 : decode b_Law_law 423 = .ok (.aload_n 0, 1) := by decide +kernel
theorem d_Law_law_424 : decode b_Law_law 424 = .ok (.iload_n 3, 1) := by decide +kernel
theorem d_Law_law_425 : decode b_Law_law 425 = .ok (.iconst 1, 1) := by decide +kernel
theorem d_Law_law_426 : decode b_Law_law 426 = .ok (.iadd, 1) := by decide +kernel
theorem d_Law_law_427 : decode b_Law_law 427 = .ok (.iaload, 1) := by decide +kernel
theorem d_Law_law_428 : decode b_Law_law 428 = .ok (.invokevirtual 51, 3) := by decide +kernel
theorem d_Law_law_431 : decode b_Law_law 431 = .ok (.aload_n 2, 1) := by decide +kernel
theorem d_Law_law_432 : decode b_Law_law 432 = .ok (.aload_n 0, 1) := by decide +kernel
theorem d_Law_law_433 : decode b_Law_law 433 = .ok (.iload_n 3, 1) := by decide +kernel
theorem d_Law_law_434 : decode b_Law_law 434 = .ok (.iconst 1, 1) := by decide +kernel
theorem d_Law_law_435 : decode b_Law_law 435 = .ok (.iadd, 1) := by decide +kernel
theorem d_Law_law_436 : decode b_Law_law 436 = .ok (.iaload, 1) := by decide +kernel
theorem d_Law_law_437 : decode b_Law_law 437 = .ok (.invokevirtual 54, 3) := by decide +kernel
theorem d_Law_law_440 : decode b_Law_law 440 = .ok (.if_icmp .eq 516, 3) := by decide +kernel
theorem d_Law_law_443 : decode b_Law_law 443 = .ok (.iconst 0, 1) := by decide +kernel
theorem d_Law_law_444 : decode b_Law_law 444 = .ok (.ireturn, 1) := by decide +kernel
theorem d_Law_law_445 : decode b_Law_law 445 = .ok (.aload_n 1, 1) := by decide +kernel
theorem d_Law_law_446 : decode b_Law_law 446 = .ok (.aload_n 0, 1) := by decide +kernel
theorem d_Law_law_447 : decode b_Law_law 447 = .ok (.iload_n 3, 1) := by decide +kernel
theorem d_Law_law_448 : decode b_Law_law 448 = .ok (.iconst 1, 1) := by decide +kernel
theorem d_Law_law_449 : decode b_Law_law 449 = .ok (.iadd, 1) := by decide +kernel
theorem d_Law_law_450 : decode b_Law_law 450 = .ok (.iaload, 1) := by decide +kernel
theorem d_Law_law_451 : decode b_Law_law 451 = .ok (.aload_n 0, 1) := by decide +kernel
theorem d_Law_law_452 : decode b_Law_law 452 = .ok (.iload_n 3, 1) := by decide +kernel
theorem d_Law_law_453 : decode b_Law_law 453 = .ok (.iconst 2, 1) := by decide +kernel
theorem d_Law_law_454 : decode b_Law_law 454 = .ok (.iadd, 1) := by decide +kernel
theorem d_Law_law_455 : decode b_Law_law 455 = .ok (.iaload, 1) := by decide +kernel
theorem d_Law_law_456 : decode b_Law_law 456 = .ok (.invokevirtual 55, 3) := by decide +kernel
theorem d_Law_law_459 : decode b_Law_law 459 = .ok (.aload_n 2, 1) := by decide +kernel
theorem d_Law_law_460 : decode b_Law_law 460 = .ok (.aload_n 0, 1) := by decide +kernel
theorem d_Law_law_461 : decode b_Law_law 461 = .ok (.iload_n 3, 1) := by decide +kernel
theorem d_Law_law_462 : decode b_Law_law 462 = .ok (.iconst 1, 1) := by decide +kernel
theorem d_Law_law_463 : decode b_Law_law 463 = .ok (.iadd, 1) := by decide +kernel
theorem d_Law_law_464 : decode b_Law_law 464 = .ok (.iaload, 1) := by decide +kernel
theorem d_Law_law_465 : decode b_Law_law 465 = .ok (.aload_n 0, 1) := by decide +kernel
theorem d_Law_law_466 : decode b_Law_law 466 = .ok (.iload_n 3, 1) := by decide +kernel
theorem d_Law_law_467 : decode b_Law_law 467 = .ok (.iconst 2, 1) := by decide +kernel
theorem d_Law_law_468 : decode b_Law_law 468 = .ok (.iadd, 1) := by decide +kernel
theorem d_Law_law_469 : decode b_Law_law 469 = .ok (.iaload, 1) := by decide +kernel
theorem d_Law_law_470 : decode b_Law_law 470 = .ok (.invokevirtual 58, 3) := by decide +kernel
theorem d_Law_law_473 : decode b_Law_law 473 = .ok (.if_icmp .eq 483, 3) := by decide +kernel
theorem d_Law_law_476 : decode b_Law_law 476 = .ok (.iconst 0, 1) := by decide +kernel
theorem d_Law_law_477 : decode b_Law_law 477 = .ok (.ireturn, 1) := by decide +kernel
theorem d_Law_law_478 : decode b_Law_law 478 = .ok (.aload_n 1, 1) := by decide +kernel
theorem d_Law_law_479 : decode b_Law_law 479 = .ok (.aload_n 0, 1) := by decide +kernel
theorem d_Law_law_480 : decode b_Law_law 480 = .ok (.iload_n 3, 1) := by decide +kernel
theorem d_Law_law_481 : decode b_Law_law 481 = .ok (.iconst 1, 1) := by decide +kernel
theorem d_Law_law_482 : decode b_Law_law 482 = .ok (.iadd, 1) := by decide +kernel
theorem d_Law_law_483 : decode b_Law_law 483 = .ok (.iaload, 1) := by decide +kernel
theorem d_Law_law_484 : decode b_Law_law 484 = .ok (.invokevirtual 59, 3) := by decide +kernel
theorem d_Law_law_487 : decode b_Law_law 487 = .ok (.aload_n 2, 1) := by decide +kernel
theorem d_Law_law_488 : decode b_Law_law 488 = .ok (.aload_n 0, 1) := by decide +kernel
theorem d_Law_law_489 : decode b_Law_law 489 = .ok (.iload_n 3, 1) := by decide +kernel
theorem d_Law_law_490 : decode b_Law_law 490 = .ok (.iconst 1, 1) := by decide +kernel
theorem d_Law_law_491 : decode b_Law_law 491 = .ok (.iadd, 1) := by decide +kernel
theorem d_Law_law_492 : decode b_Law_law 492 = .ok (.iaload, 1) := by decide +kernel
theorem d_Law_law_493 : decode b_Law_law 493 = .ok (.invokevirtual 62, 3) := by decide +kernel
theorem d_Law_law_496 : decode b_Law_law 496 = .ok (.if_icmp .eq 460, 3) := by decide +kernel
theorem d_Law_law_499 : decode b_Law_law 499 = .ok (.iconst 0, 1) := by decide +kernel
theorem d_Law_law_500 : decode b_Law_law 500 = .ok (.ireturn, 1) := by decide +kernel
theorem d_Law_law_501 : decode b_Law_law 501 = .ok (.aload_n 1, 1) := by decide +kernel
theorem d_Law_law_502 : decode b_Law_law 502 = .ok (.aload_n 0, 1) := by decide +kernel
theorem d_Law_law_503 : decode b_Law_law 503 = .ok (.iload_n 3, 1) := by decide +kernel
theorem d_Law_law_504 : decode b_Law_law 504 = .ok (.iconst 1, 1) := by decide +kernel
theorem d_Law_law_505 : decode b_Law_law 505 = .ok (.iadd, 1) := by decide +kernel
theorem d_Law_law_506 : decode b_Law_law 506 = .ok (.iaload, 1) := by decide +kernel
theorem d_Law_law_507 : decode b_Law_law 507 = .ok (.invokevirtual 63, 3) := by decide +kernel
theorem d_Law_law_510 : decode b_Law_law 510 = .ok (.aload_n 2, 1) := by decide +kernel
theorem d_Law_law_511 : decode b_Law_law 511 = .ok (.aload_n 0, 1) := by decide +kernel
theorem d_Law_law_512 : decode b_Law_law 512 = .ok (.iload_n 3, 1) := by decide +kernel
theorem d_Law_law_513 : decode b_Law_law 513 = .ok (.iconst 1, 1) := by decide +kernel
theorem d_Law_law_514 : decode b_Law_law 514 = .ok (.iadd, 1) := by decide +kernel
theorem d_Law_law_515 : decode b_Law_law 515 = .ok (.iaload, 1) := by decide +kernel
theorem d_Law_law_516 : decode b_Law_law 516 = .ok (.invokevirtual 66, 3) := by decide +kernel
theorem d_Law_law_519 : decode b_Law_law 519 = .ok (.if_icmp .eq 437, 3) := by decide +kernel
theorem d_Law_law_522 : decode b_Law_law 522 = .ok (.iconst 0, 1) := by decide +kernel
theorem d_Law_law_523 : decode b_Law_law 523 = .ok (.ireturn, 1) := by decide +kernel
theorem d_Law_law_524 : decode b_Law_law 524 = .ok (.aload_n 1, 1) := by decide +kernel
theorem d_Law_law_525 : decode b_Law_law 525 = .ok (.aload_n 0, 1) := by decide +kernel
theorem d_Law_law_526 : decode b_Law_law 526 = .ok (.iload_n 3, 1) := by decide +kernel
theorem d_Law_law_527 : decode b_Law_law 527 = .ok (.iconst 1, 1) := by decide +kernel
theorem d_Law_law_528 : decode b_Law_law 528 = .ok (.iadd, 1) := by decide +kernel
theorem d_Law_law_529 : decode b_Law_law 529 = .ok (.iaload, 1) := by decide +kernel
theorem d_Law_law_530 : decode b_Law_law 530 = .ok (.invokevirtual 67, 3) := by decide +kernel
theorem d_Law_law_533 : decode b_Law_law 533 = .ok (.aload_n 2, 1) := by decide +kernel
theorem d_Law_law_534 : decode b_Law_law 534 = .ok (.aload_n 0, 1) := by decide +kernel
theorem d_Law_law_535 : decode b_Law_law 535 = .ok (.iload_n 3, 1) := by decide +kernel
theorem d_Law_law_536 : decode b_Law_law 536 = .ok (.iconst 1, 1) := by decide +kernel
theorem d_Law_law_537 : decode b_Law_law 537 = .ok (.iadd, 1) := by decide +kernel
theorem d_Law_law_538 : decode b_Law_law 538 = .ok (.iaload, 1) := by decide +kernel
theorem d_Law_law_539 : decode b_Law_law 539 = .ok (.invokevirtual 70, 3) := by decide +kernel
theorem d_Law_law_542 : decode b_Law_law 542 = .ok (.if_icmp .eq 414, 3) := by decide +kernel
theorem d_Law_law_545 : decode b_Law_law 545 = .ok (.iconst 0, 1) := by decide +kernel
theorem d_Law_law_546 : decode b_Law_law 546 = .ok (.ireturn, 1) := by decide +kernel
theorem d_Law_law_547 : decode b_Law_law 547 = .ok (.aload_n 1, 1) := by decide +kernel
theorem d_Law_law_548 : decode b_Law_law 548 = .ok (.aload_n 0, 1) := by decide +kernel
theorem d_Law_law_549 : decode b_Law_law 549 = .ok (.iload_n 3, 1) := by decide +kernel
theorem d_Law_law_550 : decode b_Law_law 550 = .ok (.iconst 1, 1) := by decide +kernel
theorem d_Law_law_551 : decode b_Law_law 551 = .ok (.iadd, 1) := by decide +kernel
theorem d_Law_law_552 : decode b_Law_law 552 = .ok (.iaload, 1) := by decide +kernel
theorem d_Law_law_553 : decode b_Law_law 553 = .ok (.invokevirtual 71, 3) := by decide +kernel
theorem d_Law_law_556 : decode b_Law_law 556 = .ok (.aload_n 2, 1) := by decide +kernel
theorem d_Law_law_557 : decode b_Law_law 557 = .ok (.aload_n 0, 1) := by decide +kernel
theorem d_Law_law_558 : decode b_Law_law 558 = .ok (.iload_n 3, 1) := by decide +kernel
theorem d_Law_law_559 : decode b_Law_law 559 = .ok (.iconst 1, 1) := by decide +kernel
theorem d_Law_law_560 : decode b_Law_law 560 = .ok (.iadd, 1) := by decide +kernel
theorem d_Law_law_561 : decode b_Law_law 561 = .ok (.iaload, 1) := by decide +kernel
theorem d_Law_law_562 : decode b_Law_law 562 = .ok (.invokevirtual 74, 3) := by decide +kernel
theorem d_Law_law_565 : decode b_Law_law 565 = .ok (.if_icmp .eq 391, 3) := by decide +kernel
theorem d_Law_law_568 : decode b_Law_law 568 = .ok (.iconst 0, 1) := by decide +kernel
theorem d_Law_law_569 : decode b_Law_law 569 = .ok (.ireturn, 1) := by decide +kernel
theorem d_Law_law_570 : decode b_Law_law 570 = .ok (.aload_n 1, 1) := by decide +kernel
theorem d_Law_law_571 : decode b_Law_law 571 = .ok (.aload_n 0, 1) := by decide +kernel
theorem d_Law_law_572 : decode b_Law_law 572 = .ok (.iload_n 3, 1) := by decide +kernel
theorem d_Law_law_573 : decode b_Law_law 573 = .ok (.iconst 1, 1) := by decide +kernel
theorem d_Law_law_574 : decode b_Law_law 574 = .ok (.iadd, 1) := by decide +kernel
theorem d_Law_law_575 : decode b_Law_law 575 = .ok (.iaload, 1) := by decide +kernel
theorem d_Law_law_576 : decode b_Law_law 576 = .ok (.aload_n 0, 1) := by decide +kernel
theorem d_Law_law_577 : decode b_Law_law 577 = .ok (.iload_n 3, 1) := by decide +kernel
theorem d_Law_law_578 : decode b_Law_law 578 = .ok (.iconst 2, 1) := by decide +kernel
theorem d_Law_law_579 : decode b_Law_law 579 = .ok (.iadd, 1) := by decide +kernel
theorem d_Law_law_580 : decode b_Law_law 580 = .ok (.iaload, 1) := by decide +kernel
theorem d_Law_law_581 : decode b_Law_law 581 = .ok (.invokevirtual 75, 3) := by decide +kernel
theorem d_Law_law_584 : decode b_Law_law 584 = .ok (.aload_n 2, 1) := by decide +kernel
theorem d_Law_law_585 : decode b_Law_law 585 = .ok (.aload_n 0, 1) := by decide +kernel
theorem d_Law_law_586 : decode b_Law_law 586 = .ok (.iload_n 3, 1) := by decide +kernel
theorem d_Law_law_587 : decode b_Law_law 587 = .ok (.iconst 1, 1) := by decide +kernel
theorem d_Law_law_588 : decode b_Law_law 588 = .ok (.iadd, 1) := by decide +kernel
theorem d_Law_law_589 : decode b_Law_law 589 = .ok (.iaload, 1) := by decide +kernel
theorem d_Law_law_590 : decode b_Law_law 590 = .ok (.aload_n 0, 1) := by decide +kernel
theorem d_Law_law_591 : decode b_Law_law 591 = .ok (.iload_n 3, 1) := by decide +kernel
theorem d_Law_law_592 : decode b_Law_law 592 = .ok (.iconst 2, 1) := by decide +kernel
theorem d_Law_law_593 : decode b_Law_law 593 = .ok (.iadd, 1) := by decide +kernel
theorem d_Law_law_594 : decode b_Law_law 594 = .ok (.iaload, 1) := by decide +kernel
theorem d_Law_law_595 : decode b_Law_law 595 = .ok (.invokevirtual 78, 3) := by decide +kernel
theorem d_Law_law_598 : decode b_Law_law 598 = .ok (.if_icmp .eq 358, 3) := by decide +kernel
theorem d_Law_law_601 : decode b_Law_law 601 = .ok (.iconst 0, 1) := by decide +kernel
theorem d_Law_law_602 : decode b_Law_law 602 = .ok (.ireturn, 1) := by decide +kernel
theorem d_Law_law_603 : decode b_Law_law 603 = .ok (.aload_n 1, 1) := by decide +kernel
theorem d_Law_law_604 : decode b_Law_law 604 = .ok (.aload_n 0, 1) := by decide +kernel
theorem d_Law_law_605 : decode b_Law_law 605 = .ok (.iload_n 3, 1) := by decide +kernel
theorem d_Law_law_606 : decode b_Law_law 606 = .ok (.iconst 1, 1) := by decide +kernel
theorem d_Law_law_607 : decode b_Law_law 607 = .ok (.iadd, 1) := by decide +kernel
theorem d_Law_law_608 : decode b_Law_law 608 = .ok (.iaload, 1) := by decide +kernel
theorem d_Law_law_609 : decode b_Law_law 609 = .ok (.aload_n 0, 1) := by decide +kernel
theorem d_Law_law_610 : decode b_Law_law 610 = .ok (.iload_n 3, 1) := by decide +kernel
theorem d_Law_law_611 : decode b_Law_law 611 = .ok (.iconst 2, 1) := by decide +kernel
theorem d_Law_law_612 : decode b_Law_law 612 = .ok (.iadd, 1) := by decide +kernel
theorem d_Law_law_613 : decode b_Law_law 613 = .ok (.iaload, 1) := by decide +kernel
theorem d_Law_law_614 : decode b_Law_law 614 = .ok (.aload_n 0, 1) := by decide +kernel
theorem d_Law_law_615 : decode b_Law_law 615 = .ok (.iload_n 3, 1) := by decide +kernel
theorem d_Law_law_616 : decode b_Law_law 616 = .ok (.iconst 3, 1) := by decide +kernel
theorem d_Law_law_617 : decode b_Law_law 617 = .ok (.iadd, 1) := by decide +kernel
theorem d_Law_law_618 : decode b_Law_law 618 = .ok (.iaload, 1) := by decide +kernel
theorem d_Law_law_619 : decode b_Law_law 619 = .ok (.invokevirtual 79, 3) := by decide +kernel
theorem d_Law_law_622 : decode b_Law_law 622 = .ok (.aload_n 2, 1) := by decide +kernel
theorem d_Law_law_623 : decode b_Law_law 623 = .ok (.aload_n 0, 1) := by decide +kernel
theorem d_Law_law_624 : decode b_Law_law 624 = .ok (.iload_n 3, 1) := by decide +kernel
theorem d_Law_law_625 : decode b_Law_law 625 = .ok (.iconst 1, 1) := by decide +kernel
theorem d_Law_law_626 : decode b_Law_law 626 = .ok (.iadd, 1) := by decide +kernel
theorem d_Law_law_627 : decode b_Law_law 627 = .ok (.iaload, 1) := by decide +kernel
theorem d_Law_law_628 : decode b_Law_law 628 = .ok (.aload_n 0, 1) := by decide +kernel
theorem d_Law_law_629 : decode b_Law_law 629 = .ok (.iload_n 3, 1) := by decide +kernel
theorem d_Law_law_630 : decode b_Law_law 630 = .ok (.iconst 2, 1) := by decide +kernel
theorem d_Law_law_631 : decode b_Law_law 631 = .ok (.iadd, 1) := by decide +kernel
theorem d_Law_law_632 : decode b_Law_law 632 = .ok (.iaload, 1) := by decide +kernel
theorem d_Law_law_633 : decode b_Law_law 633 = .ok (.aload_n 0, 1) := by decide +kernel
theorem d_Law_law_634 : decode b_Law_law 634 = .ok (.iload_n 3, 1) := by decide +kernel
theorem d_Law_law_635 : decode b_Law_law 635 = .ok (.iconst 3, 1) := by decide +kernel
theorem d_Law_law_636 : decode b_Law_law 636 = .ok (.iadd, 1) := by decide +kernel
theorem d_Law_law_637 : decode b_Law_law 637 = .ok (.iaload, 1) := by decide +kernel
theorem d_Law_law_638 : decode b_Law_law 638 = .ok (.invokevirtual 82, 3) := by decide +kernel
theorem d_Law_law_641 : decode b_Law_law 641 = .ok (.if_icmp .eq 315, 3) := by decide +kernel
theorem d_Law_law_644 : decode b_Law_law 644 = .ok (.iconst 0, 1) := by decide +kernel
theorem d_Law_law_645 : decode b_Law_law 645 = .ok (.ireturn, 1) := by decide +kernel
theorem d_Law_law_646 : decode b_Law_law 646 = .ok (.aload_n 1, 1) := by decide +kernel
theorem d_Law_law_647 : decode b_Law_law 647 = .ok (.aload_n 0, 1) := by decide +kernel
theorem d_Law_law_648 : decode b_Law_law 648 = .ok (.iload_n 3, 1) := by decide +kernel
theorem d_Law_law_649 : decode b_Law_law 649 = .ok (.iconst 1, 1) := by decide +kernel
theorem d_Law_law_650 : decode b_Law_law 650 = .ok (.iadd, 1) := by decide +kernel
theorem d_Law_law_651 : decode b_Law_law 651 = .ok (.iaload, 1) := by decide +kernel
theorem d_Law_law_652 : decode b_Law_law 652 = .ok (.aload_n 0, 1) := by decide +kernel
theorem d_Law_law_653 : decode b_Law_law 653 = .ok (.iload_n 3, 1) := by decide +kernel
theorem d_Law_law_654 : decode b_Law_law 654 = .ok (.iconst 2, 1) := by decide +kernel
theorem d_Law_law_655 : decode b_Law_law 655 = .ok (.iadd, 1) := by decide +kernel
theorem d_Law_law_656 : decode b_Law_law 656 = .ok (.iaload, 1) := by decide +kernel
theorem d_Law_law_657 : decode b_Law_law 657 = .ok (.invokevirtual 83, 3) := by decide +kernel
theorem d_Law_law_660 : decode b_Law_law 660 = .ok (.aload_n 2, 1) := by decide +kernel
theorem d_Law_law_661 : decode b_Law_law 661 = .ok (.aload_n 0, 1) := by decide +kernel
theorem d_Law_law_662 : decode b_Law_law 662 = .ok (.iload_n 3, 1) := by decide +kernel
theorem d_Law_law_663 : decode b_Law_law 663 = .ok (.iconst 1, 1) := by decide +kernel
theorem d_Law_law_664 : decode b_Law_law 664 = .ok (.iadd, 1) := by decide +kernel
theorem d_Law_law_665 : decode b_Law_law 665 = .ok (.iaload, 1) := by decide +kernel
theorem d_Law_law_666 : decode b_Law_law 666 = .ok (.aload_n 0, 1) := by decide +kernel
theorem d_Law_law_667 : decode b_Law_law 667 = .ok (.iload_n 3, 1) := by decide +kernel
theorem d_Law_law_668 : decode b_Law_law 668 = .ok (.iconst 2, 1) := by decide +kernel
theorem d_Law_law_669 : decode b_Law_law 669 = .ok (.iadd, 1) := by decide +kernel
theorem d_Law_law_670 : decode b_Law_law 670 = .ok (.iaload, 1) := by decide +kernel
theorem d_Law_law_671 : decode b_Law_law 671 = .ok (.invokevirtual 86, 3) := by decide +kernel
theorem d_Law_law_674 : decode b_Law_law 674 = .ok (.if_icmp .eq 282, 3) := by decide +kernel
theorem d_Law_law_677 : decode b_Law_law 677 = .ok (.iconst 0, 1) := by decide +kernel
theorem d_Law_law_678 : decode b_Law_law 678 = .ok (.ireturn, 1) := by decide +kernel
theorem d_Law_law_679 : decode b_Law_law 679 = .ok (.aload_n 1, 1) := by decide +kernel
theorem d_Law_law_680 : decode b_Law_law 680 = .ok (.aload_n 0, 1) := by decide +kernel
theorem d_Law_law_681 : decode b_Law_law 681 = .ok (.iload_n 3, 1) := by decide +kernel
theorem d_Law_law_682 : decode b_Law_law 682 = .ok (.iconst 1, 1) := by decide +kernel
theorem d_Law_law_683 : decode b_Law_law 683 = .ok (.iadd, 1) := by decide +kernel
theorem d_Law_law_684 : decode b_Law_law 684 = .ok (.iaload, 1) := by decide +kernel
theorem d_Law_law_685 : decode b_Law_law 685 = .ok (.aload_n 0, 1) := by decide +kernel
theorem d_Law_law_686 : decode b_Law_law 686 = .ok (.iload_n 3, 1) := by decide +kernel
theorem d_Law_law_687 : decode b_Law_law 687 = .ok (.iconst 2, 1) := by decide +kernel
theorem d_Law_law_688 : decode b_Law_law 688 = .ok (.iadd, 1) := by decide +kernel
theorem d_Law_law_689 : decode b_Law_law 689 = .ok (.iaload, 1) := by decide +kernel
theorem d_Law_law_690 : decode b_Law_law 690 = .ok (.invokevirtual 87, 3) := by decide +kernel
theorem d_Law_law_693 : decode b_Law_law 693 = .ok (.aload_n 2, 1) := by decide +kernel
theorem d_Law_law_694 : decode b_Law_law 694 = .ok (.aload_n 0, 1) := by decide +kernel
theorem d_Law_law_695 : decode b_Law_law 695 = .ok (.iload_n 3, 1) := by decide +kernel
theorem d_Law_law_696 : decode b_Law_law 696 = .ok (.iconst 1, 1) := by decide +kernel
theorem d_Law_law_697 : decode b_Law_law 697 = .ok (.iadd, 1) := by decide +kernel
theorem d_Law_law_698 : decode b_Law_law 698 = .ok (.iaload, 1) := by decide +kernel
theorem d_Law_law_699 : decode b_Law_law 699 = .ok (.aload_n 0, 1) := by decide +kernel
theorem d_Law_law_700 : decode b_Law_law 700 = .ok (.iload_n 3, 1) := by decide +kernel
theorem d_Law_law_701 : decode b_Law_law 701 = .ok (.iconst 2, 1) := by decide +kernel
theorem d_Law_law_702 : decode b_Law_law 702 = .ok (.iadd, 1) := by decide +kernel
theorem d_Law_law_703 : decode b_Law_law 703 = .ok (.iaload, 1) := by decide +kernel
theorem d_Law_law_704 : decode b_Law_law 704 = .ok (.invokevirtual 90, 3) := by decide +kernel
theorem d_Law_law_707 : decode b_Law_law 707 = .ok (.if_icmp .eq 249, 3) := by decide +kernel
theorem d_Law_law_710 : decode b_Law_law 710 = .ok (.iconst 0, 1) := by decide +kernel
theorem d_Law_law_711 : decode b_Law_law 711 = .ok (.ireturn, 1) := by decide +kernel
theorem d_Law_law_712 : decode b_Law_law 712 = .ok (.aload_n 1, 1) := by decide +kernel
theorem d_Law_law_713 : decode b_Law_law 713 = .ok (.aload_n 0, 1) := by decide +kernel
theorem d_Law_law_714 : decode b_Law_law 714 = .ok (.iload_n 3, 1) := by decide +kernel
theorem d_Law_law_715 : decode b_Law_law 715 = .ok (.iconst 1, 1) := by decide +kernel
theorem d_Law_law_716 : decode b_Law_law 716 = .ok (.iadd, 1) := by decide +kernel
theorem d_Law_law_717 : decode b_Law_law 717 = .ok (.iaload, 1) := by decide +kernel
theorem d_Law_law_718 : decode b_Law_law 718 = .ok (.invokevirtual 91, 3) := by decide +kernel
theorem d_Law_law_721 : decode b_Law_law 721 = .ok (.aload_n 2, 1) := by decide +kernel
theorem d_Law_law_722 : decode b_Law_law 722 = .ok (.aload_n 0, 1) := by decide +kernel
theorem d_Law_law_723 : decode b_Law_law 723 = .ok (.iload_n 3, 1) := by decide +kernel
theorem d_Law_law_724 : decode b_Law_law 724 = .ok (.iconst 1, 1) := by decide +kernel
theorem d_Law_law_725 : decode b_Law_law 725 = .ok (.iadd, 1) := by decide +kernel
theorem d_Law_law_726 : decode b_Law_law 726 = .ok (.iaload, 1) := by decide +kernel
theorem d_Law_law_727 : decode b_Law_law 727 = .ok (.invokevirtual 94, 3) := by decide +kernel
theorem d_Law_law_730 : decode b_Law_law 730 = .ok (.if_icmp .eq 226, 3) := by decide +kernel
theorem d_Law_law_733 : decode b_Law_law 733 = .ok (.iconst 0, 1) := by decide +kernel
theorem d_Law_law_734 : decode b_Law_law 734 = .ok (.ireturn, 1) := by decide +kernel
theorem d_Law_law_735 : decode b_Law_law 735 = .ok (.aload_n 1, 1) := by decide +kernel
theorem d_Law_law_736 : decode b_Law_law 736 = .ok (.invokevirtual 95, 3) := by decide +kernel
theorem d_Law_law_739 : decode b_Law_law 739 = .ok (.aload_n 2, 1) := by decide +kernel
theorem d_Law_law_740 : decode b_Law_law 740 = .ok (.invokevirtual 98, 3) := by decide +kernel
theorem d_Law_law_743 : decode b_Law_law 743 = .ok (.if_icmp .eq 213, 3) := by decide +kernel
theorem d_Law_law_746 : decode b_Law_law 746 = .ok (.iconst 0, 1) := by decide +kernel
theorem d_Law_law_747 : decode b_Law_law 747 = .ok (.ireturn, 1) := by decide +kernel
theorem d_Law_law_748 : decode b_Law_law 748 = .ok (.aload_n 1, 1) := by decide +kernel
theorem d_Law_law_749 : decode b_Law_law 749 = .ok (.aload_n 0, 1) := by decide +kernel
theorem d_Law_law_750 : decode b_Law_law 750 = .ok (.iload_n 3, 1) := by decide +kernel
theorem d_Law_law_751 : decode b_Law_law 751 = .ok (.iconst 1, 1) := by decide +kernel
theorem d_Law_law_752 : decode b_Law_law 752 = .ok (.iadd, 1) := by decide +kernel
theorem d_Law_law_753 : decode b_Law_law 753 = .ok (.iaload, 1) := by decide +kernel
theorem d_Law_law_754 : decode b_Law_law 754 = .ok (.aload_n 0, 1) := by decide +kernel
theorem d_Law_law_755 : decode b_Law_law 755 = .ok (.iload_n 3, 1) := by decide +kernel
theorem d_Law_law_756 : decode b_Law_law 756 = .ok (.iconst 2, 1) := by decide +kernel
theorem d_Law_law_757 : decode b_Law_law 757 = .ok (.iadd, 1) := by decide +kernel
theorem d_Law_law_758 : decode b_Law_law 758 = .ok (.iaload, 1) := by decide +kernel
theorem d_Law_law_759 : decode b_Law_law 759 = .ok (.aload_n 0, 1) := by decide +kernel
theorem d_Law_law_760 : decode b_Law_law 760 = .ok (.iload_n 3, 1) := by decide +kernel
theorem d_Law_law_761 : decode b_Law_law 761 = .ok (.iconst 3, 1) := by decide +kernel
theorem d_Law_law_762 : decode b_Law_law 762 = .ok (.iadd, 1) := by decide +kernel
theorem d_Law_law_763 : decode b_Law_law 763 = .ok (.iaload, 1) := by decide +kernel
theorem d_Law_law_764 : decode b_Law_law 764 = .ok (.invokevirtual 99, 3) := by decide +kernel
theorem d_Law_law_767 : decode b_Law_law 767 = .ok (.aload_n 2, 1) := by decide +kernel
theorem d_Law_law_768 : decode b_Law_law 768 = .ok (.aload_n 0, 1) := by decide +kernel
theorem d_Law_law_769 : decode b_Law_law 769 = .ok (.iload_n 3, 1) := by decide +kernel
theorem d_Law_law_770 : decode b_Law_law 770 = .ok (.iconst 1, 1) := by decide +kernel
theorem d_Law_law_771 : decode b_Law_law 771 = .ok (.iadd, 1) := by decide +kernel
theorem d_Law_law_772 : decode b_Law_law 772 = .ok (.iaload, 1) := by decide +kernel
theorem d_Law_law_773 : decode b_Law_law 773 = .ok (.aload_n 0, 1) := by decide +kernel
theorem d_Law_law_774 : decode b_Law_law 774 = .ok (.iload_n 3, 1) := by decide +kernel
theorem d_Law_law_775 : decode b_Law_law 775 = .ok (.iconst 2, 1) := by decide +kernel
theorem d_Law_law_776 : decode b_Law_law 776 = .ok (.iadd, 1) := by decide +kernel
theorem d_Law_law_777 : decode b_Law_law 777 = .ok (.iaload, 1) := by decide +kernel
theorem d_Law_law_778 : decode b_Law_law 778 = .ok (.aload_n 0, 1) := by decide +kernel
theorem d_Law_law_779 : decode b_Law_law 779 = .ok (.iload_n 3, 1) := by decide +kernel
theorem d_Law_law_780 : decode b_Law_law 780 = .ok (.iconst 3, 1) := by decide +kernel
theorem d_Law_law_781 : decode b_Law_law 781 = .ok (.iadd, 1) := by decide +kernel
theorem d_Law_law_782 : decode b_Law_law 782 = .ok (.iaload, 1) := by decide +kernel
theorem d_Law_law_783 : decode b_Law_law 783 = .ok (.invokevirtual 103, 3) := by decide +kernel
theorem d_Law_law_786 : decode b_Law_law 786 = .ok (.if_icmp .eq 170, 3) := by decide +kernel
theorem d_Law_law_789 : decode b_Law_law 789 = .ok (.iconst 0, 1) := by decide +kernel
theorem d_Law_law_790 : decode b_Law_law 790 = .ok (.ireturn, 1) := by decide +kernel
theorem d_Law_law_791 : decode b_Law_law 791 = .ok (.aload_n 1, 1) := by decide +kernel
theorem d_Law_law_792 : decode b_Law_law 792 = .ok (.aload_n 0, 1) := by decide +kernel
theorem d_Law_law_793 : decode b_Law_law 793 = .ok (.iload_n 3, 1) := by decide +kernel
theorem d_Law_law_794 : decode b_Law_law 794 = .ok (.iconst 1, 1) := by decide +kernel
theorem d_Law_law_795 : decode b_Law_law 795 = .ok (.iadd, 1) := by decide +kernel
theorem d_Law_law_796 : decode b_Law_law 796 = .ok (.iaload, 1) := by decide +kernel
theorem d_Law_law_797 : decode b_Law_law 797 = .ok (.aload_n 0, 1) := by decide +kernel
theorem d_Law_law_798 : decode b_Law_law 798 = .ok (.iload_n 3, 1) := by decide +kernel
theorem d_Law_law_799 : decode b_Law_law 799 = .ok (.iconst 2, 1) := by decide +kernel
theorem d_Law_law_800 : decode b_Law_law 800 = .ok (.iadd, 1) := by decide +kernel
theorem d_Law_law_801 : decode b_Law_law 801 = .ok (.iaload, 1) := by decide +kernel
theorem d_Law_law_802 : decode b_Law_law 802 = .ok (.aload_n 0, 1) := by decide +kernel
theorem d_Law_law_803 : decode b_Law_law 803 = .ok (.iload_n 3, 1) := by decide +kernel
theorem d_Law_law_804 : decode b_Law_law 804 = .ok (.iconst 3, 1) := by decide +kernel
theorem d_Law_law_805 : decode b_Law_law 805 = .ok (.iadd, 1) := by decide +kernel
theorem d_Law_law_806 : decode b_Law_law 806 = .ok (.iaload, 1) := by decide +kernel
theorem d_Law_law_807 : decode b_Law_law 807 = .ok (.invokevirtual 104, 3) := by decide +kernel
theorem d_Law_law_810 : decode b_Law_law 810 = .ok (.aload_n 2, 1) := by decide +kernel
theorem d_Law_law_811 : decode b_Law_law 811 = .ok (.aload_n 0, 1) := by decide +kernel
theorem d_Law_law_812 : decode b_Law_law 812 = .ok (.iload_n 3, 1) := by decide +kernel
theorem d_Law_law_813 : decode b_Law_law 813 = .ok (.iconst 1, 1) := by decide +kernel
theorem d_Law_law_814 : decode b_Law_law 814 = .ok (.iadd, 1) := by decide +kernel
theorem d_Law_law_815 : decode b_Law_law 815 = .ok (.iaload, 1) := by decide +kernel
theorem d_Law_law_816 : decode b_Law_law 816 = .ok (.aload_n 0, 1) := by decide +kernel
theorem d_Law_law_817 : decode b_Law_law 817 = .ok (.iload_n 3, 1) := by decide +kernel
theorem d_Law_law_818 : decode b_Law_law 818 = .ok (.iconst 2, 1) := by decide +kernel
theorem d_Law_law_819 : decode b_Law_law 819 = .ok (.iadd, 1) := by decide +kernel
