theorem d_Model_isSignOf_64 : decode b_Model_isSignOf 64 = .ok (.iconst 1, 1) := by decide +kernel
theorem d_Model_isSignOf_65 : decode b_Model_isSignOf 65 = .ok (.goto 4, 3) := by decide +kernel
theorem d_Model_isSignOf_68 : decode b_Model_isSignOf 68 = .ok (.iconst 0, 1) := by decide +kernel
theorem d_Model_isSignOf_69 : decode b_Model_isSignOf 69 = .ok (.ireturn, 1) := by decide +kernel
theorem d_Model_isSignOf_70 : decode b_Model_isSignOf 70 = .ok (.iload_n 1, 1) := by decide +kernel
theorem d_Model_isSignOf_71 : decode b_Model_isSignOf 71 = .ok (.bipush 58, 2) := by decide +kernel
theorem d_Model_isSignOf_73 : decode b_Model_isSignOf 73 = .ok (.if_icmp .eq 15, 3) := by decide +kernel
theorem d_Model_isSignOf_76 : decode b_Model_isSignOf 76 = .ok (.iload_n 1, 1) := by decide +kernel
theorem d_Model_isSignOf_77 : decode b_Model_isSignOf 77 = .ok (.bipush 44, 2) := by decide +kernel
theorem d_Model_isSignOf_79 : decode b_Model_isSignOf 79 = .ok (.if_icmp .eq 9, 3) := by decide +kernel
theorem d_Model_isSignOf_82 : decode b_Model_isSignOf 82 = .ok (.iload_n 1, 1) := by decide +kernel
theorem d_Model_isSignOf_83 : decode b_Model_isSignOf 83 = .ok (.bipush 59, 2) := by decide +kernel
theorem d_Model_isSignOf_85 : decode b_Model_isSignOf 85 = .ok (.if_icmp .ne 7, 3) := by decide +kernel
theorem d_Model_isSignOf_88 : decode b_Model_isSignOf 88 = .ok (.iconst 1, 1) := by decide +kernel
theorem d_Model_isSignOf_89 : decode b_Model_isSignOf 89 = .ok (.goto 4, 3) := by decide +kernel
theorem d_Model_isSignOf_92 : decode b_Model_isSignOf 92 = .ok (.iconst 0, 1) := by decide +kernel
theorem d_Model_isSignOf_93 : decode b_Model_isSignOf 93 = .ok (.ireturn, 1) := by decide +kernel
theorem d_Model_next_0 : decode b_Model_next 0 = .ok (.aload_n 0, 1) := by decide +kernel
theorem d_Model_next_1 : decode b_Model_next 1 = .ok (.invokevirtual 215, 3) := by decide +kernel
theorem d_Model_next_4 : decode b_Model_next 4 = .ok (.bipush 32, 2) := by decide +kernel
theorem d_Model_next_6 : decode b_Model_next 6 = .ok (.if_icmp .eq 12, 3) := by decide +kernel
theorem d_Model_next_9 : decode b_Model_next 9 = .ok (.aload_n 0, 1) := by decide +kernel
theorem d_Model_next_10 : decode b_Model_next 10 = .ok (.invokevirtual 215, 3) := by decide +kernel
theorem d_Model_next_13 : decode b_Model_next 13 = .ok (.bipush 10, 2) := by decide +kernel
theorem d_Model_next_15 : decode b_Model_next 15 = .ok (.if_icmp .ne 16, 3) := by decide +kernel
theorem d_Model_next_18 : decode b_Model_next 18 = .ok (.aload_n 0, 1) := by decide +kernel
theorem d_Model_next_19 : decode b_Model_next 19 = .ok (.aload_n 0, 1) := by decide +kernel
theorem d_Model_next_20 : decode b_Model_next 20 = .ok (.getfield 204, 3) := by decide +kernel
theorem d_Model_next_23 : decode b_Model_next 23 = .ok (.iconst 1, 1) := by decide +kernel
theorem d_Model_next_24 : decode b_Model_next 24 = .ok (.iadd, 1) := by decide +kernel
theorem d_Model_next_25 : decode b_Model_next 25 = .ok (.putfield 204, 3) := by decide +kernel
theorem d_Model_next_28 : decode b_Model_next 28 = .ok (.goto (-28), 3) := by decide +kernel
theorem d_Model_next_31 : decode b_Model_next 31 = .ok (.aload_n 0, 1) := by decide +kernel
theorem d_Model_next_32 : decode b_Model_next 32 = .ok (.aload_n 0, 1) := by decide +kernel
theorem d_Model_next_33 : decode b_Model_next 33 = .ok (.getfield 204, 3) := by decide +kernel
theorem d_Model_next_36 : decode b_Model_next 36 = .ok (.putfield 219, 3) := by decide +kernel
theorem d_Model_next_39 : decode b_Model_next 39 = .ok (.aload_n 0, 1) := by decide +kernel
theorem d_Model_next_40 : decode b_Model_next 40 = .ok (.iconst 1, 1) := by decide +kernel
theorem d_Model_next_41 : decode b_Model_next 41 = .ok (.putfield 222, 3) := by decide +kernel
theorem d_Model_next_44 : decode b_Model_next 44 = .ok (.aload_n 0, 1) := by decide +kernel
theorem d_Model_next_45 : decode b_Model_next 45 = .ok (.invokevirtual 215, 3) := by decide +kernel
theorem d_Model_next_48 : decode b_Model_next 48 = .ok (.istore_n 2, 1) := by decide +kernel
theorem d_Model_next_49 : decode b_Model_next 49 = .ok (.iload_n 2, 1) := by decide +kernel
theorem d_Model_next_50 : decode b_Model_next 50 = .ok (.iconst (-1), 1) := by decide +kernel
theorem d_Model_next_51 : decode b_Model_next 51 = .ok (.if_icmp .ne 11, 3) := by decide +kernel
theorem d_Model_next_54 : decode b_Model_next 54 = .ok (.aload_n 0, 1) := by decide +kernel
theorem d_Model_next_55 : decode b_Model_next 55 = .ok (.iconst 0, 1) := by decide +kernel
theorem d_Model_next_56 : decode b_Model_next 56 = .ok (.putfield 222, 3) := by decide +kernel
theorem d_Model_next_59 : decode b_Model_next 59 = .ok (.goto 231, 3) := by decide +kernel
theorem d_Model_next_62 : decode b_Model_next 62 = .ok (.aload_n 0, 1) := by decide +kernel
theorem d_Model_next_63 : decode b_Model_next 63 = .ok (.iload_n 2, 1) := by decide +kernel
theorem d_Model_next_64 : decode b_Model_next 64 = .ok (.invokevirtual 225, 3) := by decide +kernel
theorem d_Model_next_67 : decode b_Model_next 67 = .ok (.ifCond .eq 101, 3) := by decide +kernel
theorem d_Model_next_70 : decode b_Model_next 70 = .ok (.iconst 0, 1) := by decide +kernel
theorem d_Model_next_71 : decode b_Model_next 71 = .ok (.istore_n 3, 1) := by decide +kernel
theorem d_Model_next_72 : decode b_Model_next 72 = .ok (.aload_n 0, 1) := by decide +kernel
theorem d_Model_next_73 : decode b_Model_next 73 = .ok (.lconst 0, 1) := by decide +kernel
theorem d_Model_next_74 : decode b_Model_next 74 = .ok (.putfield 207, 3) := by decide +kernel
theorem d_Model_next_77 : decode b_Model_next 77 = .ok (.aload_n 0, 1) := by decide +kernel
theorem d_Model_next_78 : decode b_Model_next 78 = .ok (.aload_n 0, 1) := by decide +kernel
theorem d_Model_next_79 : decode b_Model_next 79 = .ok (.invokevirtual 215, 3) := by decide +kernel
theorem d_Model_next_82 : decode b_Model_next 82 = .ok (.invokevirtual 225, 3) := by decide +kernel
theorem d_Model_next_85 : decode b_Model_next 85 = .ok (.ifCond .eq 43, 3) := by decide +kernel
theorem d_Model_next_88 : decode b_Model_next 88 = .ok (.iload_n 3, 1) := by decide +kernel
theorem d_Model_next_89 : decode b_Model_next 89 = .ok (.bipush 7, 2) := by decide +kernel
theorem d_Model_next_91 : decode b_Model_next 91 = .ok (.if_icmp .ge 20, 3) := by decide +kernel
theorem d_Model_next_94 : decode b_Model_next 94 = .ok (.aload_n 0, 1) := by decide +kernel
theorem d_Model_next_95 : decode b_Model_next 95 = .ok (.aload_n 0, 1) := by decide +kernel
theorem d_Model_next_96 : decode b_Model_next 96 = .ok (.getfield 207, 3) := by decide +kernel
theorem d_Model_next_99 : decode b_Model_next 99 = .ok (.bipush 8, 2) := by decide +kernel
theorem d_Model_next_101 : decode b_Model_next 101 = .ok (.lshl, 1) := by decide +kernel
theorem d_Model_next_102 : decode b_Model_next 102 = .ok (.aload_n 0, 1) := by decide +kernel
theorem d_Model_next_103 : decode b_Model_next 103 = .ok (.invokevirtual 215, 3) := by decide +kernel
theorem d_Model_next_106 : decode b_Model_next 106 = .ok (.i2l, 1) := by decide +kernel
theorem d_Model_next_107 : decode b_Model_next 107 = .ok (.lor, 1) := by decide +kernel
theorem d_Model_next_108 : decode b_Model_next 108 = .ok (.putfield 207, 3) := by decide +kernel
theorem d_Model_next_111 : decode b_Model_next 111 = .ok (.iload_n 3, 1) := by decide +kernel
theorem d_Model_next_112 : decode b_Model_next 112 = .ok (.iconst 1, 1) := by decide +kernel
theorem d_Model_next_113 : decode b_Model_next 113 = .ok (.iadd, 1) := by decide +kernel
theorem d_Model_next_114 : decode b_Model_next 114 = .ok (.istore_n 3, 1) := by decide +kernel
theorem d_Model_next_115 : decode b_Model_next 115 = .ok (.aload_n 0, 1) := by decide +kernel
theorem d_Model_next_116 : decode b_Model_next 116 = .ok (.aload_n 0, 1) := by decide +kernel
theorem d_Model_next_117 : decode b_Model_next 117 = .ok (.getfield 204, 3) := by decide +kernel
theorem d_Model_next_120 : decode b_Model_next 120 = .ok (.iconst 1, 1) := by decide +kernel
theorem d_Model_next_121 : decode b_Model_next 121 = .ok (.iadd, 1) := by decide +kernel
theorem d_Model_next_122 : decode b_Model_next 122 = .ok (.putfield 204, 3) := by decide +kernel
theorem d_Model_next_125 : decode b_Model_next 125 = .ok (.goto (-48), 3) := by decide +kernel
theorem d_Model_next_128 : decode b_Model_next 128 = .ok (.iload_n 3, 1) := by decide +kernel
theorem d_Model_next_129 : decode b_Model_next 129 = .ok (.bipush 7, 2) := by decide +kernel
theorem d_Model_next_131 : decode b_Model_next 131 = .ok (.if_icmp .ge 19, 3) := by decide +kernel
theorem d_Model_next_134 : decode b_Model_next 134 = .ok (.aload_n 0, 1) := by decide +kernel
theorem d_Model_next_135 : decode b_Model_next 135 = .ok (.iload_n 1, 1) := by decide +kernel
theorem d_Model_next_136 : decode b_Model_next 136 = .ok (.invokevirtual 228, 3) := by decide +kernel
theorem d_Model_next_139 : decode b_Model_next 139 = .ok (.ifCond .eq 11, 3) := by decide +kernel
theorem d_Model_next_142 : decode b_Model_next 142 = .ok (.aload_n 0, 1) := by decide +kernel
theorem d_Model_next_143 : decode b_Model_next 143 = .ok (.iconst 2, 1) := by decide +kernel
theorem d_Model_next_144 : decode b_Model_next 144 = .ok (.putfield 222, 3) := by decide +kernel
theorem d_Model_next_147 : decode b_Model_next 147 = .ok (.goto 18, 3) := by decide +kernel
theorem d_Model_next_150 : decode b_Model_next 150 = .ok (.iload_n 3, 1) := by decide +kernel
theorem d_Model_next_151 : decode b_Model_next 151 = .ok (.bipush 7, 2) := by decide +kernel
theorem d_Model_next_153 : decode b_Model_next 153 = .ok (.if_icmp .ge 12, 3) := by decide +kernel
theorem d_Model_next_156 : decode b_Model_next 156 = .ok (.iload_n 1, 1) := by decide +kernel
theorem d_Model_next_157 : decode b_Model_next 157 = .ok (.ifCond .ne 8, 3) := by decide +kernel
theorem d_Model_next_160 : decode b_Model_next 160 = .ok (.aload_n 0, 1) := by decide +kernel
theorem d_Model_next_161 : decode b_Model_next 161 = .ok (.iconst 3, 1) := by decide +kernel
theorem d_Model_next_162 : decode b_Model_next 162 = .ok (.putfield 222, 3) := by decide +kernel
theorem d_Model_next_165 : decode b_Model_next 165 = .ok (.goto 125, 3) := by decide +kernel
theorem d_Model_next_168 : decode b_Model_next 168 = .ok (.aload_n 0, 1) := by decide +kernel
theorem d_Model_next_169 : decode b_Model_next 169 = .ok (.iload_n 2, 1) := by decide +kernel
theorem d_Model_next_170 : decode b_Model_next 170 = .ok (.invokevirtual 232, 3) := by decide +kernel
theorem d_Model_next_173 : decode b_Model_next 173 = .ok (.ifCond .eq 88, 3) := by decide +kernel
theorem d_Model_next_176 : decode b_Model_next 176 = .ok (.iconst 0, 1) := by decide +kernel
theorem d_Model_next_177 : decode b_Model_next 177 = .ok (.istore_n 3, 1) := by decide +kernel
theorem d_Model_next_178 : decode b_Model_next 178 = .ok (.iload_n 1, 1) := by decide +kernel
theorem d_Model_next_179 : decode b_Model_next 179 = .ok (.ifCond .eq 7, 3) := by decide +kernel
theorem d_Model_next_182 : decode b_Model_next 182 = .ok (.iconst 4, 1) := by decide +kernel
theorem d_Model_next_183 : decode b_Model_next 183 = .ok (.goto 4, 3) := by decide +kernel
theorem d_Model_next_186 : decode b_Model_next 186 = .ok (.iconst 2, 1) := by decide +kernel
theorem d_Model_next_187 : decode b_Model_next 187 = .ok (.istore 4, 2) := by decide +kernel
theorem d_Model_next_189 : decode b_Model_next 189 = .ok (.aload_n 0, 1) := by decide +kernel
theorem d_Model_next_190 : decode b_Model_next 190 = .ok (.iconst 0, 1) := by decide +kernel
theorem d_Model_next_191 : decode b_Model_next 191 = .ok (.putfield 235, 3) := by decide +kernel
theorem d_Model_next_194 : decode b_Model_next 194 = .ok (.aload_n 0, 1) := by decide +kernel
theorem d_Model_next_195 : decode b_Model_next 195 = .ok (.aload_n 0, 1) := by decide +kernel
theorem d_Model_next_196 : decode b_Model_next 196 = .ok (.invokevirtual 215, 3) := by decide +kernel
theorem d_Model_next_199 : decode b_Model_next 199 = .ok (.invokevirtual 232, 3) := by decide +kernel
theorem d_Model_next_202 : decode b_Model_next 202 = .ok (.ifCond .eq 45, 3) := by decide +kernel
theorem d_Model_next_205 : decode b_Model_next 205 = .ok (.iload_n 3, 1) := by decide +kernel
theorem d_Model_next_206 : decode b_Model_next 206 = .ok (.iload 4, 2) := by decide +kernel
theorem d_Model_next_208 : decode b_Model_next 208 = .ok (.if_icmp .ge 22, 3) := by decide +kernel
theorem d_Model_next_211 : decode b_Model_next 211 = .ok (.aload_n 0, 1) := by decide +kernel
theorem d_Model_next_212 : decode b_Model_next 212 = .ok (.bipush 10, 2) := by decide +kernel
theorem d_Model_next_214 : decode b_Model_next 214 = .ok (.aload_n 0, 1) := by decide +kernel
theorem d_Model_next_215 : decode b_Model_next 215 = .ok (.getfield 235, 3) := by decide +kernel
theorem d_Model_next_218 : decode b_Model_next 218 = .ok (.imul, 1) := by decide +kernel
theorem d_Model_next_219 : decode b_Model_next 219 = .ok (.aload_n 0, 1) := by decide +kernel
theorem d_Model_next_220 : decode b_Model_next 220 = .ok (.invokevirtual 215, 3) := by decide +kernel
theorem d_Model_next_223 : decode b_Model_next 223 = .ok (.iadd, 1) := by decide +kernel
theorem d_Model_next_224 : decode b_Model_next 224 = .ok (.bipush 48, 2) := by decide +kernel
theorem d_Model_next_226 : decode b_Model_next 226 = .ok (.isub, 1) := by decide +kernel
theorem d_Model_next_227 : decode b_Model_next 227 = .ok (.putfield 235, 3) := by decide +kernel
theorem d_Model_next_230 : decode b_Model_next 230 = .ok (.iload_n 3, 1) := by decide +kernel
theorem d_Model_next_231 : decode b_Model_next 231 = .ok (.iconst 1, 1) := by decide +kernel
theorem d_Model_next_232 : decode b_Model_next 232 = .ok (.iadd, 1) := by decide +kernel
theorem d_Model_next_233 : decode b_Model_next 233 = .ok (.istore_n 3, 1) := by decide +kernel
theorem d_Model_next_234 : decode b_Model_next 234 = .ok (.aload_n 0, 1) := by decide +kernel
theorem d_Model_next_235 : decode b_Model_next 235 = .ok (.aload_n 0, 1) := by decide +kernel
theorem d_Model_next_236 : decode b_Model_next 236 = .ok (.getfield 204, 3) := by decide +kernel
theorem d_Model_next_239 : decode b_Model_next 239 = .ok (.iconst 1, 1) := by decide +kernel
theorem d_Model_next_240 : decode b_Model_next 240 = .ok (.iadd, 1) := by decide +kernel
theorem d_Model_next_241 : decode b_Model_next 241 = .ok (.putfield 204, 3) := by decide +kernel
theorem d_Model_next_244 : decode b_Model_next 244 = .ok (.goto (-50), 3) := by decide +kernel
theorem d_Model_next_247 : decode b_Model_next 247 = .ok (.iload_n 3, 1) := by decide +kernel
theorem d_Model_next_248 : decode b_Model_next 248 = .ok (.iload 4, 2) := by decide +kernel
theorem d_Model_next_250 : decode b_Model_next 250 = .ok (.if_icmp .gt 8, 3) := by decide +kernel
theorem d_Model_next_253 : decode b_Model_next 253 = .ok (.aload_n 0, 1) := by decide +kernel
theorem d_Model_next_254 : decode b_Model_next 254 = .ok (.iconst 4, 1) := by decide +kernel
theorem d_Model_next_255 : decode b_Model_next 255 = .ok (.putfield 222, 3) := by decide +kernel
theorem d_Model_next_258 : decode b_Model_next 258 = .ok (.goto 32, 3) := by decide +kernel
theorem d_Model_next_261 : decode b_Model_next 261 = .ok (.aload_n 0, 1) := by decide +kernel
theorem d_Model_next_262 : decode b_Model_next 262 = .ok (.iload_n 2, 1) := by decide +kernel
theorem d_Model_next_263 : decode b_Model_next 263 = .ok (.putfield 235, 3) := by decide +kernel
theorem d_Model_next_266 : decode b_Model_next 266 = .ok (.aload_n 0, 1) := by decide +kernel
theorem d_Model_next_267 : decode b_Model_next 267 = .ok (.iload_n 2, 1) := by decide +kernel
theorem d_Model_next_268 : decode b_Model_next 268 = .ok (.iload_n 1, 1) := by decide +kernel
theorem d_Model_next_269 : decode b_Model_next 269 = .ok (.invokevirtual 238, 3) := by decide +kernel
theorem d_Model_next_272 : decode b_Model_next 272 = .ok (.ifCond .eq 8, 3) := by decide +kernel
theorem d_Model_next_275 : decode b_Model_next 275 = .ok (.aload_n 0, 1) := by decide +kernel
theorem d_Model_next_276 : decode b_Model_next 276 = .ok (.iconst 5, 1) := by decide +kernel
theorem d_Model_next_277 : decode b_Model_next 277 = .ok (.putfield 222, 3) := by decide +kernel
theorem d_Model_next_280 : decode b_Model_next 280 = .ok (.aload_n 0, 1) := by decide +kernel
theorem d_Model_next_281 : decode b_Model_next 281 = .ok (.aload_n 0, 1) := by decide +kernel
theorem d_Model_next_282 : decode b_Model_next 282 = .ok (.getfield 204, 3) := by decide +kernel
theorem d_Model_next_285 : decode b_Model_next 285 = .ok (.iconst 1, 1) := by decide +kernel
theorem d_Model_next_286 : decode b_Model_next 286 = .ok (.iadd, 1) := by decide +kernel
theorem d_Model_next_287 : decode b_Model_next 287 = .ok (.putfield 204, 3) := by decide +kernel
theorem d_Model_next_290 : decode b_Model_next 290 = .ok (.return_, 1) := by decide +kernel
theorem d_Model_fails_0 : decode b_Model_fails 0 = .ok (.aload_n 0, 1) := by decide +kernel
theorem d_Model_fails_1 : decode b_Model_fails 1 = .ok (.iload_n 1, 1) := by decide +kernel
theorem d_Model_fails_2 : decode b_Model_fails 2 = .ok (.putfield 201, 3) := by decide +kernel
theorem d_Model_fails_5 : decode b_Model_fails 5 = .ok (.aload_n 0, 1) := by decide +kernel
theorem d_Model_fails_6 : decode b_Model_fails 6 = .ok (.aload_n 0, 1) := by decide +kernel
theorem d_Model_fails_7 : decode b_Model_fails 7 = .ok (.getfield 219, 3) := by decide +kernel
theorem d_Model_fails_10 : decode b_Model_fails 10 = .ok (.putfield 82, 3) := by decide +kernel
theorem d_Model_fails_13 : decode b_Model_fails 13 = .ok (.iconst 0, 1) := by decide +kernel
theorem d_Model_fails_14 : decode b_Model_fails 14 = .ok (.ireturn, 1) := by decide +kernel
theorem d_Model_isWord_0 : decode b_Model_isWord 0 = .ok (.aload_n 0, 1) := by decide +kernel
theorem d_Model_isWord_1 : decode b_Model_isWord 1 = .ok (.getfield 222, 3) := by decide +kernel
theorem d_Model_isWord_4 : decode b_Model_isWord 4 = .ok (.iconst 2, 1) := by decide +kernel
theorem d_Model_isWord_5 : decode b_Model_isWord 5 = .ok (.if_icmp .ne 26, 3) := by decide +kernel
theorem d_Model_isWord_8 : decode b_Model_isWord 8 = .ok (.aload_n 0, 1) := by decide +kernel
theorem d_Model_isWord_9 : decode b_Model_isWord 9 = .ok (.getfield 207, 3) := by decide +kernel
theorem d_Model_isWord_12 : decode b_Model_isWord 12 = .ok (.aload_n 0, 1) := by decide +kernel
theorem d_Model_isWord_13 : decode b_Model_isWord 13 = .ok (.iload_n 1, 1) := by decide +kernel
theorem d_Model_isWord_14 : decode b_Model_isWord 14 = .ok (.iload_n 2, 1) := by decide +kernel
theorem d_Model_isWord_15 : decode b_Model_isWord 15 = .ok (.iload_n 3, 1) := by decide +kernel
theorem d_Model_isWord_16 : decode b_Model_isWord 16 = .ok (.iload 4, 2) := by decide +kernel
theorem d_Model_isWord_18 : decode b_Model_isWord 18 = .ok (.iload 5, 2) := by decide +kernel
theorem d_Model_isWord_20 : decode b_Model_isWord 20 = .ok (.invokevirtual 211, 3) := by decide +kernel
theorem d_Model_isWord_23 : decode b_Model_isWord 23 = .ok (.lcmp, 1) := by decide +kernel
theorem d_Model_isWord_24 : decode b_Model_isWord 24 = .ok (.ifCond .ne 7, 3) := by decide +kernel
theorem d_Model_isWord_27 : decode b_Model_isWord 27 = .ok (.iconst 1, 1) := by decide +kernel
theorem d_Model_isWord_28 : decode b_Model_isWord 28 = .ok (.goto 4, 3) := by decide +kernel
theorem d_Model_isWord_31 : decode b_Model_isWord 31 = .ok (.iconst 0, 1) := by decide +kernel
theorem d_Model_isWord_32 : decode b_Model_isWord 32 = .ok (.ireturn, 1) := by decide +kernel
theorem d_Model_isSign_0 : decode b_Model_isSign 0 = .ok (.aload_n 0, 1) := by decide +kernel
theorem d_Model_isSign_1 : decode b_Model_isSign 1 = .ok (.getfield 222, 3) := by decide +kernel
theorem d_Model_isSign_4 : decode b_Model_isSign 4 = .ok (.iconst 5, 1) := by decide +kernel
theorem d_Model_isSign_5 : decode b_Model_isSign 5 = .ok (.if_icmp .ne 15, 3) := by decide +kernel
theorem d_Model_isSign_8 : decode b_Model_isSign 8 = .ok (.aload_n 0, 1) := by decide +kernel
theorem d_Model_isSign_9 : decode b_Model_isSign 9 = .ok (.getfield 235, 3) := by decide +kernel
theorem d_Model_isSign_12 : decode b_Model_isSign 12 = .ok (.iload_n 1, 1) := by decide +kernel
theorem d_Model_isSign_13 : decode b_Model_isSign 13 = .ok (.if_icmp .ne 7, 3) := by decide +kernel
theorem d_Model_isSign_16 : decode b_Model_isSign 16 = .ok (.iconst 1, 1) := by decide +kernel
theorem d_Model_isSign_17 : decode b_Model_isSign 17 = .ok (.goto 4, 3) := by decide +kernel
theorem d_Model_isSign_20 : decode b_Model_isSign 20 = .ok (.iconst 0, 1) := by decide +kernel
theorem d_Model_isSign_21 : decode b_Model_isSign 21 = .ok (.ireturn, 1) := by decide +kernel
theorem d_Model_takes_0 : decode b_Model_takes 0 = .ok (.aload_n 0, 1) := by decide +kernel
theorem d_Model_takes_1 : decode b_Model_takes 1 = .ok (.getfield 222, 3) := by decide +kernel
theorem d_Model_takes_4 : decode b_Model_takes 4 = .ok (.iconst 4, 1) := by decide +kernel
theorem d_Model_takes_5 : decode b_Model_takes 5 = .ok (.if_icmp .eq 9, 3) := by decide +kernel
theorem d_Model_takes_8 : decode b_Model_takes 8 = .ok (.aload_n 0, 1) := by decide +kernel
theorem d_Model_takes_9 : decode b_Model_takes 9 = .ok (.iconst 1, 1) := by decide +kernel
theorem d_Model_takes_10 : decode b_Model_takes 10 = .ok (.invokevirtual 242, 3) := by decide +kernel
theorem d_Model_takes_13 : decode b_Model_takes 13 = .ok (.ireturn, 1) := by decide +kernel
theorem d_Model_takes_14 : decode b_Model_takes 14 = .ok (.aload_n 0, 1) := by decide +kernel
theorem d_Model_takes_15 : decode b_Model_takes 15 = .ok (.getfield 235, 3) := by decide +kernel
theorem d_Model_takes_18 : decode b_Model_takes 18 = .ok (.iload_n 1, 1) := by decide +kernel
theorem d_Model_takes_19 : decode b_Model_takes 19 = .ok (.if_icmp .lt 11, 3) := by decide +kernel
theorem d_Model_takes_22 : decode b_Model_takes 22 = .ok (.aload_n 0, 1) := by decide +kernel
theorem d_Model_takes_23 : decode b_Model_takes 23 = .ok (.getfield 235, 3) := by decide +kernel
theorem d_Model_takes_26 : decode b_Model_takes 26 = .ok (.iload_n 2, 1) := by decide +kernel
theorem d_Model_takes_27 : decode b_Model_takes 27 = .ok (.if_icmp .le 11, 3) := by decide +kernel
theorem d_Model_takes_30 : decode b_Model_takes 30 = .ok (.aload_n 0, 1) := by decide +kernel
theorem d_Model_takes_31 : decode b_Model_takes 31 = .ok (.iconst 3, 1) := by decide +kernel
theorem d_Model_takes_32 : decode b_Model_takes 32 = .ok (.invokevirtual 242, 3) := by decide +kernel
theorem d_Model_takes_35 : decode b_Model_takes 35 = .ok (.ifCond .eq 7, 3) := by decide +kernel
theorem d_Model_takes_38 : decode b_Model_takes 38 = .ok (.iconst 1, 1) := by decide +kernel
theorem d_Model_takes_39 : decode b_Model_takes 39 = .ok (.goto 4, 3) := by decide +kernel
theorem d_Model_takes_42 : decode b_Model_takes 42 = .ok (.iconst 0, 1) := by decide +kernel
theorem d_Model_takes_43 : decode b_Model_takes 43 = .ok (.ireturn, 1) := by decide +kernel
theorem d_Model_readPiece_0 : decode b_Model_readPiece 0 = .ok (.aload_n 0, 1) := by decide +kernel
theorem d_Model_readPiece_1 : decode b_Model_readPiece 1 = .ok (.getfield 245, 3) := by decide +kernel
theorem d_Model_readPiece_4 : decode b_Model_readPiece 4 = .ok (.bipush 10, 2) := by decide +kernel
theorem d_Model_readPiece_6 : decode b_Model_readPiece 6 = .ok (.if_icmp .ne 9, 3) := by decide +kernel
theorem d_Model_readPiece_9 : decode b_Model_readPiece 9 = .ok (.aload_n 0, 1) := by decide +kernel
theorem d_Model_readPiece_10 : decode b_Model_readPiece 10 = .ok (.iconst 4, 1) := by decide +kernel
theorem d_Model_readPiece_11 : decode b_Model_readPiece 11 = .ok (.invokevirtual 242, 3) := by decide +kernel
theorem d_Model_readPiece_14 : decode b_Model_readPiece 14 = .ok (.ireturn, 1) := by decide +kernel
theorem d_Model_readPiece_15 : decode b_Model_readPiece 15 = .ok (.aload_n 0, 1) := by decide +kernel
theorem d_Model_readPiece_16 : decode b_Model_readPiece 16 = .ok (.getfield 245, 3) := by decide +kernel
theorem d_Model_readPiece_19 : decode b_Model_readPiece 19 = .ok (.istore_n 1, 1) := by decide +kernel
theorem d_Model_readPiece_20 : decode b_Model_readPiece 20 = .ok (.aload_n 0, 1) := by decide +kernel
theorem d_Model_readPiece_21 : decode b_Model_readPiece 21 = .ok (.iconst 0, 1) := by decide +kernel
theorem d_Model_readPiece_22 : decode b_Model_readPiece 22 = .ok (.invokevirtual 248, 3) := by decide +kernel
theorem d_Model_readPiece_25 : decode b_Model_readPiece 25 = .ok (.aload_n 0, 1) := by decide +kernel
theorem d_Model_readPiece_26 : decode b_Model_readPiece 26 = .ok (.getfield 222, 3) := by decide +kernel
theorem d_Model_readPiece_29 : decode b_Model_readPiece 29 = .ok (.iconst 3, 1) := by decide +kernel
theorem d_Model_readPiece_30 : decode b_Model_readPiece 30 = .ok (.if_icmp .eq 9, 3) := by decide +kernel
theorem d_Model_readPiece_33 : decode b_Model_readPiece 33 = .ok (.aload_n 0, 1) := by decide +kernel
theorem d_Model_readPiece_34 : decode b_Model_readPiece 34 = .ok (.iconst 1, 1) := by decide +kernel
theorem d_Model_readPiece_35 : decode b_Model_readPiece 35 = .ok (.invokevirtual 242, 3) := by decide +kernel
theorem d_Model_readPiece_38 : decode b_Model_readPiece 38 = .ok (.ireturn, 1) := by decide +kernel
theorem d_Model_readPiece_39 : decode b_Model_readPiece 39 = .ok (.iconst 0, 1) := by decide +kernel
theorem d_Model_readPiece_40 : decode b_Model_readPiece 40 = .ok (.istore_n 2, 1) := by decide +kernel
theorem d_Model_readPiece_41 : decode b_Model_readPiece 41 = .ok (.iload_n 2, 1) := by decide +kernel
theorem d_Model_readPiece_42 : decode b_Model_readPiece 42 = .ok (.aload_n 0, 1) := by decide +kernel
theorem d_Model_readPiece_43 : decode b_Model_readPiece 43 = .ok (.getfield 245, 3) := by decide +kernel
theorem d_Model_readPiece_46 : decode b_Model_readPiece 46 = .ok (.if_icmp .ge 29, 3) := by decide +kernel
theorem d_Model_readPiece_49 : decode b_Model_readPiece 49 = .ok (.aload_n 0, 1) := by decide +kernel
theorem d_Model_readPiece_50 : decode b_Model_readPiece 50 = .ok (.getfield 26, 3) := by decide +kernel
theorem d_Model_readPiece_53 : decode b_Model_readPiece 53 = .ok (.iload_n 2, 1) := by decide +kernel
theorem d_Model_readPiece_54 : decode b_Model_readPiece 54 = .ok (.laload, 1) := by decide +kernel
theorem d_Model_readPiece_55 : decode b_Model_readPiece 55 = .ok (.aload_n 0, 1) := by decide +kernel
theorem d_Model_readPiece_56 : decode b_Model_readPiece 56 = .ok (.getfield 207, 3) := by decide +kernel
theorem d_Model_readPiece_59 : decode b_Model_readPiece 59 = .ok (.lcmp, 1) := by decide +kernel
theorem d_Model_readPiece_60 : decode b_Model_readPiece 60 = .ok (.ifCond .ne 9, 3) := by decide +kernel
theorem d_Model_readPiece_63 : decode b_Model_readPiece 63 = .ok (.aload_n 0, 1) := by decide +kernel
theorem d_Model_readPiece_64 : decode b_Model_readPiece 64 = .ok (.iconst 2, 1) := by decide +kernel
theorem d_Model_readPiece_65 : decode b_Model_readPiece 65 = .ok (.invokevirtual 242, 3) := by decide +kernel
theorem d_Model_readPiece_68 : decode b_Model_readPiece 68 = .ok (.ireturn, 1) := by decide +kernel
theorem d_Model_readPiece_69 : decode b_Model_readPiece 69 = .ok (.iinc 2 1, 3) := by decide +kernel
theorem d_Model_readPiece_72 : decode b_Model_readPiece 72 = .ok (.goto (-31), 3) := by decide +kernel
theorem d_Model_readPiece_75 : decode b_Model_readPiece 75 = .ok (.aload_n 0, 1) := by decide +kernel
theorem d_Model_readPiece_76 : decode b_Model_readPiece 76 = .ok (.getfield 26, 3) := by decide +kernel
theorem d_Model_readPiece_79 : decode b_Model_readPiece 79 = .ok (.iload_n 1, 1) := by decide +kernel
theorem d_Model_readPiece_80 : decode b_Model_readPiece 80 = .ok (.aload_n 0, 1) := by decide +kernel
theorem d_Model_readPiece_81 : decode b_Model_readPiece 81 = .ok (.getfield 207, 3) := by decide +kernel
theorem d_Model_readPiece_84 : decode b_Model_readPiece 84 = .ok (.lastore, 1) := by decide +kernel
theorem d_Model_readPiece_85 : decode b_Model_readPiece 85 = .ok (.aload_n 0, 1) := by decide +kernel
theorem d_Model_readPiece_86 : decode b_Model_readPiece 86 = .ok (.iconst 0, 1) := by decide +kernel
theorem d_Model_readPiece_87 : decode b_Model_readPiece 87 = .ok (.invokevirtual 248, 3) := by decide +kernel
theorem d_Model_readPiece_90 : decode b_Model_readPiece 90 = .ok (.aload_n 0, 1) := by decide +kernel
theorem d_Model_readPiece_91 : decode b_Model_readPiece 91 = .ok (.bipush 58, 2) := by decide +kernel
theorem d_Model_readPiece_93 : decode b_Model_readPiece 93 = .ok (.invokevirtual 252, 3) := by decide +kernel
theorem d_Model_readPiece_96 : decode b_Model_readPiece 96 = .ok (.ifCond .ne 9, 3) := by decide +kernel
theorem d_Model_readPiece_99 : decode b_Model_readPiece 99 = .ok (.aload_n 0, 1) := by decide +kernel
theorem d_Model_readPiece_100 : decode b_Model_readPiece 100 = .ok (.iconst 1, 1) := by decide +kernel
theorem d_Model_readPiece_101 : decode b_Model_readPiece 101 = .ok (.invokevirtual 242, 3) := by decide +kernel
theorem d_Model_readPiece_104 : decode b_Model_readPiece 104 = .ok (.ireturn, 1) := by decide +kernel
theorem d_Model_readPiece_105 : decode b_Model_readPiece 105 = .ok (.aload_n 0, 1) := by decide +kernel
theorem d_Model_readPiece_106 : decode b_Model_readPiece 106 = .ok (.iconst 0, 1) := by decide +kernel
theorem d_Model_readPiece_107 : decode b_Model_readPiece 107 = .ok (.invokevirtual 248, 3) := by decide +kernel
theorem d_Model_readPiece_110 : decode b_Model_readPiece 110 = .ok (.aload_n 0, 1) := by decide +kernel
theorem d_Model_readPiece_111 : decode b_Model_readPiece 111 = .ok (.iconst 1, 1) := by decide +kernel
theorem d_Model_readPiece_112 : decode b_Model_readPiece 112 = .ok (.bipush 60, 2) := by decide +kernel
theorem d_Model_readPiece_114 : decode b_Model_readPiece 114 = .ok (.invokevirtual 255, 3) := by decide +kernel
theorem d_Model_readPiece_117 : decode b_Model_readPiece 117 = .ok (.ifCond .ne 5, 3) := by decide +kernel
theorem d_Model_readPiece_120 : decode b_Model_readPiece 120 = .ok (.iconst 0, 1) := by decide +kernel
theorem d_Model_readPiece_121 : decode b_Model_readPiece 121 = .ok (.ireturn, 1) := by decide +kernel
theorem d_Model_readPiece_122 : decode b_Model_readPiece 122 = .ok (.aload_n 0, 1) := by decide +kernel
theorem d_Model_readPiece_123 : decode b_Model_readPiece 123 = .ok (.getfield 30, 3) := by decide +kernel
theorem d_Model_readPiece_126 : decode b_Model_readPiece 126 = .ok (.iload_n 1, 1) := by decide +kernel
theorem d_Model_readPiece_127 : decode b_Model_readPiece 127 = .ok (.aload_n 0, 1) := by decide +kernel
theorem d_Model_readPiece_128 : decode b_Model_readPiece 128 = .ok (.getfield 235, 3) := by decide +kernel
theorem d_Model_readPiece_131 : decode b_Model_readPiece 131 = .ok (.iastore, 1) := by decide +kernel
theorem d_Model_readPiece_132 : decode b_Model_readPiece 132 = .ok (.aload_n 0, 1) := by decide +kernel
theorem d_Model_readPiece_133 : decode b_Model_readPiece 133 = .ok (.iconst 0, 1) := by decide +kernel
theorem d_Model_readPiece_134 : decode b_Model_readPiece 134 = .ok (.invokevirtual 248, 3) := by decide +kernel
theorem d_Model_readPiece_137 : decode b_Model_readPiece 137 = .ok (.aload_n 0, 1) := by decide +kernel
theorem d_Model_readPiece_138 : decode b_Model_readPiece 138 = .ok (.iconst 0, 1) := by decide +kernel
theorem d_Model_readPiece_139 : decode b_Model_readPiece 139 = .ok (.bipush 9, 2) := by decide +kernel
theorem d_Model_readPiece_141 : decode b_Model_readPiece 141 = .ok (.invokevirtual 255, 3) := by decide +kernel
theorem d_Model_readPiece_144 : decode b_Model_readPiece 144 = .ok (.ifCond .ne 5, 3) := by decide +kernel
theorem d_Model_readPiece_147 : decode b_Model_readPiece 147 = .ok (.iconst 0, 1) := by decide +kernel
theorem d_Model_readPiece_148 : decode b_Model_readPiece 148 = .ok (.ireturn, 1) := by decide +kernel
theorem d_Model_readPiece_149 : decode b_Model_readPiece 149 = .ok (.aload_n 0, 1) := by decide +kernel
theorem d_Model_readPiece_150 : decode b_Model_readPiece 150 = .ok (.getfield 33, 3) := by decide +kernel
theorem d_Model_readPiece_153 : decode b_Model_readPiece 153 = .ok (.iload_n 1, 1) := by decide +kernel
theorem d_Model_readPiece_154 : decode b_Model_readPiece 154 = .ok (.aload_n 0, 1) := by decide +kernel
theorem d_Model_readPiece_155 : decode b_Model_readPiece 155 = .ok (.getfield 235, 3) := by decide +kernel
theorem d_Model_readPiece_158 : decode b_Model_readPiece 158 = .ok (.iastore, 1) := by decide +kernel
theorem d_Model_readPiece_159 : decode b_Model_readPiece 159 = .ok (.aload_n 0, 1) := by decide +kernel
theorem d_Model_readPiece_160 : decode b_Model_readPiece 160 = .ok (.iconst 0, 1) := by decide +kernel
theorem d_Model_readPiece_161 : decode b_Model_readPiece 161 = .ok (.invokevirtual 248, 3) := by decide +kernel
theorem d_Model_readPiece_164 : decode b_Model_readPiece 164 = .ok (.aload_n 0, 1) := by decide +kernel
theorem d_Model_readPiece_165 : decode b_Model_readPiece 165 = .ok (.iconst 0, 1) := by decide +kernel
theorem d_Model_readPiece_166 : decode b_Model_readPiece 166 = .ok (.bipush 11, 2) := by decide +kernel
theorem d_Model_readPiece_168 : decode b_Model_readPiece 168 = .ok (.invokevirtual 255, 3) := by decide +kernel
theorem d_Model_readPiece_171 : decode b_Model_readPiece 171 = .ok (.ifCond .ne 5, 3) := by decide +kernel
theorem d_Model_readPiece_174 : decode b_Model_readPiece 174 = .ok (.iconst 0, 1) := by decide +kernel
theorem d_Model_readPiece_175 : decode b_Model_readPiece 175 = .ok (.ireturn, 1) := by decide +kernel
theorem d_Model_readPiece_176 : decode b_Model_readPiece 176 = .ok (.aload_n 0, 1) := by decide +kernel
theorem d_Model_readPiece_177 : decode b_Model_readPiece 177 = .ok (.getfield 36, 3) := by decide +kernel
theorem d_Model_readPiece_180 : decode b_Model_readPiece 180 = .ok (.iload_n 1, 1) := by decide +kernel
theorem d_Model_readPiece_181 : decode b_Model_readPiece 181 = .ok (.aload_n 0, 1) := by decide +kernel
theorem d_Model_readPiece_182 : decode b_Model_readPiece 182 = .ok (.getfield 235, 3) := by decide +kernel
theorem d_Model_readPiece_185 : decode b_Model_readPiece 185 = .ok (.iastore, 1) := by decide +kernel
theorem d_Model_readPiece_186 : decode b_Model_readPiece 186 = .ok (.aload_n 0, 1) := by decide +kernel
theorem d_Model_readPiece_187 : decode b_Model_readPiece 187 = .ok (.getfield 39, 3) := by decide +kernel
theorem d_Model_readPiece_190 : decode b_Model_readPiece 190 = .ok (.iload_n 1, 1) := by decide +kernel
theorem d_Model_readPiece_191 : decode b_Model_readPiece 191 = .ok (.iconst 0, 1) := by decide +kernel
theorem d_Model_readPiece_192 : decode b_Model_readPiece 192 = .ok (.iastore, 1) := by decide +kernel
theorem d_Model_readPiece_193 : decode b_Model_readPiece 193 = .ok (.aload_n 0, 1) := by decide +kernel
theorem d_Model_readPiece_194 : decode b_Model_readPiece 194 = .ok (.getfield 42, 3) := by decide +kernel
theorem d_Model_readPiece_197 : decode b_Model_readPiece 197 = .ok (.iload_n 1, 1) := by decide +kernel
theorem d_Model_readPiece_198 : decode b_Model_readPiece 198 = .ok (.iconst 0, 1) := by decide +kernel
theorem d_Model_readPiece_199 : decode b_Model_readPiece 199 = .ok (.iastore, 1) := by decide +kernel
theorem d_Model_readPiece_200 : decode b_Model_readPiece 200 = .ok (.aload_n 0, 1) := by decide +kernel
theorem d_Model_readPiece_201 : decode b_Model_readPiece 201 = .ok (.iconst 0, 1) := by decide +kernel
theorem d_Model_readPiece_202 : decode b_Model_readPiece 202 = .ok (.invokevirtual 248, 3) := by decide +kernel
theorem d_Model_readPiece_205 : decode b_Model_readPiece 205 = .ok (.aload_n 0, 1) := by decide +kernel
theorem d_Model_readPiece_206 : decode b_Model_readPiece 206 = .ok (.bipush 44, 2) := by decide +kernel
theorem d_Model_readPiece_208 : decode b_Model_readPiece 208 = .ok (.invokevirtual 252, 3) := by decide +kernel
theorem d_Model_readPiece_211 : decode b_Model_readPiece 211 = .ok (.ifCond .eq 13, 3) := by decide +kernel
theorem d_Model_readPiece_214 : decode b_Model_readPiece 214 = .ok (.aload_n 0, 1) := by decide +kernel
theorem d_Model_readPiece_215 : decode b_Model_readPiece 215 = .ok (.iload_n 1, 1) := by decide +kernel
theorem d_Model_readPiece_216 : decode b_Model_readPiece 216 = .ok (.invokevirtual 258, 3) := by decide +kernel
theorem d_Model_readPiece_219 : decode b_Model_readPiece 219 = .ok (.ifCond .ne (-14), 3) := by decide +kernel
theorem d_Model_readPiece_222 : decode b_Model_readPiece 222 = .ok (.iconst 0, 1) := by decide +kernel
theorem d_Model_readPiece_223 : decode b_Model_readPiece 223 = .ok (.ireturn, 1) := by decide +kernel
theorem d_Model_readPiece_224 : decode b_Model_readPiece 224 = .ok (.aload_n 0, 1) := by decide +kernel
theorem d_Model_readPiece_225 : decode b_Model_readPiece 225 = .ok (.bipush 59, 2) := by decide +kernel
theorem d_Model_readPiece_227 : decode b_Model_readPiece 227 = .ok (.invokevirtual 252, 3) := by decide +kernel
theorem d_Model_readPiece_230 : decode b_Model_readPiece 230 = .ok (.ifCond .ne 9, 3) := by decide +kernel
theorem d_Model_readPiece_233 : decode b_Model_readPiece 233 = .ok (.aload_n 0, 1) := by decide +kernel
theorem d_Model_readPiece_234 : decode b_Model_readPiece 234 = .ok (.iconst 1, 1) := by decide +kernel
theorem d_Model_readPiece_235 : decode b_Model_readPiece 235 = .ok (.invokevirtual 242, 3) := by decide +kernel
theorem d_Model_readPiece_238 : decode b_Model_readPiece 238 = .ok (.ireturn, 1) := by decide +kernel
theorem d_Model_readPiece_239 : decode b_Model_readPiece 239 = .ok (.iconst 0, 1) := by decide +kernel
theorem d_Model_readPiece_240 : decode b_Model_readPiece 240 = .ok (.istore_n 2, 1) := by decide +kernel
theorem d_Model_readPiece_241 : decode b_Model_readPiece 241 = .ok (.iload_n 2, 1) := by decide +kernel
theorem d_Model_readPiece_242 : decode b_Model_readPiece 242 = .ok (.bipush 10, 2) := by decide +kernel
theorem d_Model_readPiece_244 : decode b_Model_readPiece 244 = .ok (.if_icmp .ge 21, 3) := by decide +kernel
theorem d_Model_readPiece_247 : decode b_Model_readPiece 247 = .ok (.aload_n 0, 1) := by decide +kernel
theorem d_Model_readPiece_248 : decode b_Model_readPiece 248 = .ok (.getfield 51, 3) := by decide +kernel
theorem d_Model_readPiece_251 : decode b_Model_readPiece 251 = .ok (.bipush 10, 2) := by decide +kernel
theorem d_Model_readPiece_253 : decode b_Model_readPiece 253 = .ok (.iload_n 1, 1) := by decide +kernel
theorem d_Model_readPiece_254 : decode b_Model_readPiece 254 = .ok (.imul, 1) := by decide +kernel
theorem d_Model_readPiece_255 : decode b_Model_readPiece 255 = .ok (.iload_n 2, 1) := by decide +kernel
theorem d_Model_readPiece_256 : decode b_Model_readPiece 256 = .ok (.iadd, 1) := by decide +kernel
theorem d_Model_readPiece_257 : decode b_Model_readPiece 257 = .ok (.iconst 0, 1) := by decide +kernel
theorem d_Model_readPiece_258 : decode b_Model_readPiece 258 = .ok (.iastore, 1) := by decide +kernel
theorem d_Model_readPiece_259 : decode b_Model_readPiece 259 = .ok (.iinc 2 1, 3) := by decide +kernel
theorem d_Model_readPiece_262 : decode b_Model_readPiece 262 = .ok (.goto (-21), 3) := by decide +kernel
theorem d_Model_readPiece_265 : decode b_Model_readPiece 265 = .ok (.aload_n 0, 1) := by decide +kernel
theorem d_Model_readPiece_266 : decode b_Model_readPiece 266 = .ok (.aload_n 0, 1) := by decide +kernel
theorem d_Model_readPiece_267 : decode b_Model_readPiece 267 = .ok (.getfield 245, 3) := by decide +kernel
theorem d_Model_readPiece_270 : decode b_Model_readPiece 270 = .ok (.iconst 1, 1) := by decide +kernel
theorem d_Model_readPiece_271 : decode b_Model_readPiece 271 = .ok (.iadd, 1) := by decide +kernel
theorem d_Model_readPiece_272 : decode b_Model_readPiece 272 = .ok (.putfield 245, 3) := by decide +kernel
theorem d_Model_readPiece_275 : decode b_Model_readPiece 275 = .ok (.aload_n 0, 1) := by decide +kernel
theorem d_Model_readPiece_276 : decode b_Model_readPiece 276 = .ok (.iconst 0, 1) := by decide +kernel
theorem d_Model_readPiece_277 : decode b_Model_readPiece 277 = .ok (.invokevirtual 248, 3) := by decide +kernel
theorem d_Model_readPiece_280 : decode b_Model_readPiece 280 = .ok (.iconst 1, 1) := by decide +kernel
theorem d_Model_readPiece_281 : decode b_Model_readPiece 281 = .ok (.ireturn, 1) := by decide +kernel
theorem d_Model_readPart_0 : decode b_Model_readPart 0 = .ok (.aload_n 0, 1) := by decide +kernel
theorem d_Model_readPart_1 : decode b_Model_readPart 1 = .ok (.getfield 39, 3) := by decide +kernel
theorem d_Model_readPart_4 : decode b_Model_readPart 4 = .ok (.iload_n 1, 1) := by decide +kernel
theorem d_Model_readPart_5 : decode b_Model_readPart 5 = .ok (.iaload, 1) := by decide +kernel
theorem d_Model_readPart_6 : decode b_Model_readPart 6 = .ok (.bipush 10, 2) := by decide +kernel
theorem d_Model_readPart_8 : decode b_Model_readPart 8 = .ok (.if_icmp .ne 9, 3) := by decide +kernel
theorem d_Model_readPart_11 : decode b_Model_readPart 11 = .ok (.aload_n 0, 1) := by decide +kernel
theorem d_Model_readPart_12 : decode b_Model_readPart 12 = .ok (.iconst 4, 1) := by decide +kernel
theorem d_Model_readPart_13 : decode b_Model_readPart 13 = .ok (.invokevirtual 242, 3) := by decide +kernel
theorem d_Model_readPart_16 : decode b_Model_readPart 16 = .ok (.ireturn, 1) := by decide +kernel
theorem d_Model_readPart_17 : decode b_Model_readPart 17 = .ok (.aload_n 0, 1) := by decide +kernel
theorem d_Model_readPart_18 : decode b_Model_readPart 18 = .ok (.getfield 39, 3) := by decide +kernel
theorem d_Model_readPart_21 : decode b_Model_readPart 21 = .ok (.iload_n 1, 1) := by decide +kernel
theorem d_Model_readPart_22 : decode b_Model_readPart 22 = .ok (.iaload, 1) := by decide +kernel
theorem d_Model_readPart_23 : decode b_Model_readPart 23 = .ok (.istore_n 2, 1) := by decide +kernel
theorem d_Model_readPart_24 : decode b_Model_readPart 24 = .ok (.aload_n 0, 1) := by decide +kernel
theorem d_Model_readPart_25 : decode b_Model_readPart 25 = .ok (.iconst 0, 1) := by decide +kernel
theorem d_Model_readPart_26 : decode b_Model_readPart 26 = .ok (.invokevirtual 248, 3) := by decide +kernel
theorem d_Model_readPart_29 : decode b_Model_readPart 29 = .ok (.aload_n 0, 1) := by decide +kernel
theorem d_Model_readPart_30 : decode b_Model_readPart 30 = .ok (.bipush 109, 2) := by decide +kernel
theorem d_Model_readPart_32 : decode b_Model_readPart 32 = .ok (.bipush 117, 2) := by decide +kernel
theorem d_Model_readPart_34 : decode b_Model_readPart 34 = .ok (.bipush 115, 2) := by decide +kernel
theorem d_Model_readPart_36 : decode b_Model_readPart 36 = .ok (.bipush 116, 2) := by decide +kernel
theorem d_Model_readPart_38 : decode b_Model_readPart 38 = .ok (.iconst 0, 1) := by decide +kernel
theorem d_Model_readPart_39 : decode b_Model_readPart 39 = .ok (.invokevirtual 261, 3) := by decide +kernel
theorem d_Model_readPart_42 : decode b_Model_readPart 42 = .ok (.istore_n 3, 1) := by decide +kernel
theorem d_Model_readPart_43 : decode b_Model_readPart 43 = .ok (.iload_n 3, 1) := by decide +kernel
theorem d_Model_readPart_44 : decode b_Model_readPart 44 = .ok (.ifCond .ne 24, 3) := by decide +kernel
theorem d_Model_readPart_47 : decode b_Model_readPart 47 = .ok (.aload_n 0, 1) := by decide +kernel
theorem d_Model_readPart_48 : decode b_Model_readPart 48 = .ok (.bipush 109, 2) := by decide +kernel
theorem d_Model_readPart_50 : decode b_Model_readPart 50 = .ok (.bipush 97, 2) := by decide +kernel
theorem d_Model_readPart_52 : decode b_Model_readPart 52 = .ok (.bipush 121, 2) := by decide +kernel
theorem d_Model_readPart_54 : decode b_Model_readPart 54 = .ok (.iconst 0, 1) := by decide +kernel
theorem d_Model_readPart_55 : decode b_Model_readPart 55 = .ok (.iconst 0, 1) := by decide +kernel
theorem d_Model_readPart_56 : decode b_Model_readPart 56 = .ok (.invokevirtual 261, 3) := by decide +kernel
theorem d_Model_readPart_59 : decode b_Model_readPart 59 = .ok (.ifCond .ne 9, 3) := by decide +kernel
theorem d_Model_readPart_62 : decode b_Model_readPart 62 = .ok (.aload_n 0, 1) := by decide +kernel
theorem d_Model_readPart_63 : decode b_Model_readPart 63 = .ok (.iconst 1, 1) := by decide +kernel
theorem d_Model_readPart_64 : decode b_Model_readPart 64 = .ok (.invokevirtual 242, 3) := by decide +kernel
theorem d_Model_readPart_67 : decode b_Model_readPart 67 = .ok (.ireturn, 1) := by decide +kernel
theorem d_Model_readPart_68 : decode b_Model_readPart 68 = .ok (.iload_n 3, 1) := by decide +kernel
theorem d_Model_readPart_69 : decode b_Model_readPart 69 = .ok (.ifCond .eq 19, 3) := by decide +kernel
theorem d_Model_readPart_72 : decode b_Model_readPart 72 = .ok (.aload_n 0, 1) := by decide +kernel
theorem d_Model_readPart_73 : decode b_Model_readPart 73 = .ok (.getfield 42, 3) := by decide +kernel
theorem d_Model_readPart_76 : decode b_Model_readPart 76 = .ok (.iload_n 1, 1) := by decide +kernel
theorem d_Model_readPart_77 : decode b_Model_readPart 77 = .ok (.aload_n 0, 1) := by decide +kernel
theorem d_Model_readPart_78 : decode b_Model_readPart 78 = .ok (.getfield 42, 3) := by decide +kernel
theorem d_Model_readPart_81 : decode b_Model_readPart 81 = .ok (.iload_n 1, 1) := by decide +kernel
theorem d_Model_readPart_82 : decode b_Model_readPart 82 = .ok (.iaload, 1) := by decide +kernel
theorem d_Model_readPart_83 : decode b_Model_readPart 83 = .ok (.iconst 1, 1) := by decide +kernel
theorem d_Model_readPart_84 : decode b_Model_readPart 84 = .ok (.iload_n 2, 1) := by decide +kernel
theorem d_Model_readPart_85 : decode b_Model_readPart 85 = .ok (.ishl, 1) := by decide +kernel
theorem d_Model_readPart_86 : decode b_Model_readPart 86 = .ok (.ior, 1) := by decide +kernel
theorem d_Model_readPart_87 : decode b_Model_readPart 87 = .ok (.iastore, 1) := by decide +kernel
theorem d_Model_readPart_88 : decode b_Model_readPart 88 = .ok (.aload_n 0, 1) := by decide +kernel
theorem d_Model_readPart_89 : decode b_Model_readPart 89 = .ok (.getfield 45, 3) := by decide +kernel
theorem d_Model_readPart_92 : decode b_Model_readPart 92 = .ok (.bipush 10, 2) := by decide +kernel
theorem d_Model_readPart_94 : decode b_Model_readPart 94 = .ok (.iload_n 1, 1) := by decide +kernel
theorem d_Model_readPart_95 : decode b_Model_readPart 95 = .ok (.imul, 1) := by decide +kernel
theorem d_Model_readPart_96 : decode b_Model_readPart 96 = .ok (.iload_n 2, 1) := by decide +kernel
theorem d_Model_readPart_97 : decode b_Model_readPart 97 = .ok (.iadd, 1) := by decide +kernel
theorem d_Model_readPart_98 : decode b_Model_readPart 98 = .ok (.iconst 0, 1) := by decide +kernel
theorem d_Model_readPart_99 : decode b_Model_readPart 99 = .ok (.iastore, 1) := by decide +kernel
theorem d_Model_readPart_100 : decode b_Model_readPart 100 = .ok (.iconst 1, 1) := by decide +kernel
theorem d_Model_readPart_101 : decode b_Model_readPart 101 = .ok (.istore 4, 2) := by decide +kernel
theorem d_Model_readPart_103 : decode b_Model_readPart 103 = .ok (.iload 4, 2) := by decide +kernel
theorem d_Model_readPart_105 : decode b_Model_readPart 105 = .ok (.ifCond .eq 169, 3) := by decide +kernel
theorem d_Model_readPart_108 : decode b_Model_readPart 108 = .ok (.aload_n 0, 1) := by decide +kernel
theorem d_Model_readPart_109 : decode b_Model_readPart 109 = .ok (.getfield 45, 3) := by decide +kernel
theorem d_Model_readPart_112 : decode b_Model_readPart 112 = .ok (.bipush 10, 2) := by decide +kernel
theorem d_Model_readPart_114 : decode b_Model_readPart 114 = .ok (.iload_n 1, 1) := by decide +kernel
theorem d_Model_readPart_115 : decode b_Model_readPart 115 = .ok (.imul, 1) := by decide +kernel
theorem d_Model_readPart_116 : decode b_Model_readPart 116 = .ok (.iload_n 2, 1) := by decide +kernel
theorem d_Model_readPart_117 : decode b_Model_readPart 117 = .ok (.iadd, 1) := by decide +kernel
theorem d_Model_readPart_118 : decode b_Model_readPart 118 = .ok (.iaload, 1) := by decide +kernel
theorem d_Model_readPart_119 : decode b_Model_readPart 119 = .ok (.iconst 4, 1) := by decide +kernel
theorem d_Model_readPart_120 : decode b_Model_readPart 120 = .ok (.if_icmp .ne 9, 3) := by decide +kernel
theorem d_Model_readPart_123 : decode b_Model_readPart 123 = .ok (.aload_n 0, 1) := by decide +kernel
theorem d_Model_readPart_124 : decode b_Model_readPart 124 = .ok (.iconst 4, 1) := by decide +kernel
theorem d_Model_readPart_125 : decode b_Model_readPart 125 = .ok (.invokevirtual 242, 3) := by decide +kernel
theorem d_Model_readPart_128 : decode b_Model_readPart 128 = .ok (.ireturn, 1) := by decide +kernel
theorem d_Model_readPart_129 : decode b_Model_readPart 129 = .ok (.aload_n 0, 1) := by decide +kernel
theorem d_Model_readPart_130 : decode b_Model_readPart 130 = .ok (.iconst 0, 1) := by decide +kernel
theorem d_Model_readPart_131 : decode b_Model_readPart 131 = .ok (.invokevirtual 248, 3) := by decide +kernel
theorem d_Model_readPart_134 : decode b_Model_readPart 134 = .ok (.aload_n 0, 1) := by decide +kernel
theorem d_Model_readPart_135 : decode b_Model_readPart 135 = .ok (.iconst 0, 1) := by decide +kernel
theorem d_Model_readPart_136 : decode b_Model_readPart 136 = .ok (.bipush 9, 2) := by decide +kernel
theorem d_Model_readPart_138 : decode b_Model_readPart 138 = .ok (.invokevirtual 255, 3) := by decide +kernel
theorem d_Model_readPart_141 : decode b_Model_readPart 141 = .ok (.ifCond .ne 5, 3) := by decide +kernel
theorem d_Model_readPart_144 : decode b_Model_readPart 144 = .ok (.iconst 0, 1) := by decide +kernel
theorem d_Model_readPart_145 : decode b_Model_readPart 145 = .ok (.ireturn, 1) := by decide +kernel
theorem d_Model_readPart_146 : decode b_Model_readPart 146 = .ok (.iconst 0, 1) := by decide +kernel
theorem d_Model_readPart_147 : decode b_Model_readPart 147 = .ok (.istore 5, 2) := by decide +kernel
theorem d_Model_readPart_149 : decode b_Model_readPart 149 = .ok (.iload 5, 2) := by decide +kernel
theorem d_Model_readPart_151 : decode b_Model_readPart 151 = .ok (.aload_n 0, 1) := by decide +kernel
theorem d_Model_readPart_152 : decode b_Model_readPart 152 = .ok (.getfield 45, 3) := by decide +kernel
theorem d_Model_readPart_155 : decode b_Model_readPart 155 = .ok (.bipush 10, 2) := by decide +kernel
theorem d_Model_readPart_157 : decode b_Model_readPart 157 = .ok (.iload_n 1, 1) := by decide +kernel
theorem d_Model_readPart_158 : decode b_Model_readPart 158 = .ok (.imul, 1) := by decide +kernel
theorem d_Model_readPart_159 : decode b_Model_readPart 159 = .ok (.iload_n 2, 1) := by decide +kernel
theorem d_Model_readPart_160 : decode b_Model_readPart 160 = .ok (.iadd, 1) := by decide +kernel
theorem d_Model_readPart_161 : decode b_Model_readPart 161 = .ok (.iaload, 1) := by decide +kernel
theorem d_Model_readPart_162 : decode b_Model_readPart 162 = .ok (.if_icmp .ge 38, 3) := by decide +kernel
theorem d_Model_readPart_165 : decode b_Model_readPart 165 = .ok (.aload_n 0, 1) := by decide +kernel
theorem d_Model_readPart_166 : decode b_Model_readPart 166 = .ok (.getfield 48, 3) := by decide +kernel
theorem d_Model_readPart_169 : decode b_Model_readPart 169 = .ok (.bipush 40, 2) := by decide +kernel
theorem d_Model_readPart_171 : decode b_Model_readPart 171 = .ok (.iload_n 1, 1) := by decide +kernel
theorem d_Model_readPart_172 : decode b_Model_readPart 172 = .ok (.imul, 1) := by decide +kernel
theorem d_Model_readPart_173 : decode b_Model_readPart 173 = .ok (.iconst 4, 1) := by decide +kernel
theorem d_Model_readPart_174 : decode b_Model_readPart 174 = .ok (.iload_n 2, 1) := by decide +kernel
theorem d_Model_readPart_175 : decode b_Model_readPart 175 = .ok (.imul, 1) := by decide +kernel
theorem d_Model_readPart_176 : decode b_Model_readPart 176 = .ok (.iadd, 1) := by decide +kernel
theorem d_Model_readPart_177 : decode b_Model_readPart 177 = .ok (.iload 5, 2) := by decide +kernel
theorem d_Model_readPart_179 : decode b_Model_readPart 179 = .ok (.iadd, 1) := by decide +kernel
theorem d_Model_readPart_180 : decode b_Model_readPart 180 = .ok (.iaload, 1) := by decide +kernel
theorem d_Model_readPart_181 : decode b_Model_readPart 181 = .ok (.aload_n 0, 1) := by decide +kernel
theorem d_Model_readPart_182 : decode b_Model_readPart 182 = .ok (.getfield 235, 3) := by decide +kernel
theorem d_Model_readPart_185 : decode b_Model_readPart 185 = .ok (.if_icmp .ne 9, 3) := by decide +kernel
theorem d_Model_readPart_188 : decode b_Model_readPart 188 = .ok (.aload_n 0, 1) := by decide +kernel
theorem d_Model_readPart_189 : decode b_Model_readPart 189 = .ok (.iconst 3, 1) := by decide +kernel
theorem d_Model_readPart_190 : decode b_Model_readPart 190 = .ok (.invokevirtual 242, 3) := by decide +kernel
theorem d_Model_readPart_193 : decode b_Model_readPart 193 = .ok (.ireturn, 1) := by decide +kernel
theorem d_Model_readPart_194 : decode b_Model_readPart 194 = .ok (.iinc 5 1, 3) := by decide +kernel
theorem d_Model_readPart_197 : decode b_Model_readPart 197 = .ok (.goto (-48), 3) := by decide +kernel
theorem d_Model_readPart_200 : decode b_Model_readPart 200 = .ok (.aload_n 0, 1) := by decide +kernel
theorem d_Model_readPart_201 : decode b_Model_readPart 201 = .ok (.getfield 48, 3) := by decide +kernel
theorem d_Model_readPart_204 : decode b_Model_readPart 204 = .ok (.bipush 40, 2) := by decide +kernel
theorem d_Model_readPart_206 : decode b_Model_readPart 206 = .ok (.iload_n 1, 1) := by decide +kernel
theorem d_Model_readPart_207 : decode b_Model_readPart 207 = .ok (.imul, 1) := by decide +kernel
theorem d_Model_readPart_208 : decode b_Model_readPart 208 = .ok (.iconst 4, 1) := by decide +kernel
theorem d_Model_readPart_209 : decode b_Model_readPart 209 = .ok (.iload_n 2, 1) := by decide +kernel
theorem d_Model_readPart_210 : decode b_Model_readPart 210 = .ok (.imul, 1) := by decide +kernel
theorem d_Model_readPart_211 : decode b_Model_readPart 211 = .ok (.iadd, 1) := by decide +kernel
theorem d_Model_readPart_212 : decode b_Model_readPart 212 = .ok (.aload_n 0, 1) := by decide +kernel
theorem d_Model_readPart_213 : decode b_Model_readPart 213 = .ok (.getfield 45, 3) := by decide +kernel
theorem d_Model_readPart_216 : decode b_Model_readPart 216 = .ok (.bipush 10, 2) := by decide +kernel
theorem d_Model_readPart_218 : decode b_Model_readPart 218 = .ok (.iload_n 1, 1) := by decide +kernel
theorem d_Model_readPart_219 : decode b_Model_readPart 219 = .ok (.imul, 1) := by decide +kernel
theorem d_Model_readPart_220 : decode b_Model_readPart 220 = .ok (.iload_n 2, 1) := by decide +kernel
theorem d_Model_readPart_221 : decode b_Model_readPart 221 = .ok (.iadd, 1) := by decide +kernel
theorem d_Model_readPart_222 : decode b_Model_readPart 222 = .ok (.iaload, 1) := by decide +kernel
theorem d_Model_readPart_223 : decode b_Model_readPart 223 = .ok (.iadd, 1) := by decide +kernel
theorem d_Model_readPart_224 : decode b_Model_readPart 224 = .ok (.aload_n 0, 1) := by decide +kernel
theorem d_Model_readPart_225 : decode b_Model_readPart 225 = .ok (.getfield 235, 3) := by decide +kernel
theorem d_Model_readPart_228 : decode b_Model_readPart 228 = .ok (.iastore, 1) := by decide +kernel
theorem d_Model_readPart_229 : decode b_Model_readPart 229 = .ok (.aload_n 0, 1) := by decide +kernel
theorem d_Model_readPart_230 : decode b_Model_readPart 230 = .ok (.getfield 45, 3) := by decide +kernel
theorem d_Model_readPart_233 : decode b_Model_readPart 233 = .ok (.bipush 10, 2) := by decide +kernel
theorem d_Model_readPart_235 : decode b_Model_readPart 235 = .ok (.iload_n 1, 1) := by decide +kernel
theorem d_Model_readPart_236 : decode b_Model_readPart 236 = .ok (.imul, 1) := by decide +kernel
theorem d_Model_readPart_237 : decode b_Model_readPart 237 = .ok (.iload_n 2, 1) := by decide +kernel
theorem d_Model_readPart_238 : decode b_Model_readPart 238 = .ok (.iadd, 1) := by decide +kernel
theorem d_Model_readPart_239 : decode b_Model_readPart 239 = .ok (.aload_n 0, 1) := by decide +kernel
theorem d_Model_readPart_240 : decode b_Model_readPart 240 = .ok (.getfield 45, 3) := by decide +kernel
theorem d_Model_readPart_243 : decode b_Model_readPart 243 = .ok (.bipush 10, 2) := by decide +kernel
theorem d_Model_readPart_245 : decode b_Model_readPart 245 = .ok (.iload_n 1, 1) := by decide +kernel
theorem d_Model_readPart_246 : decode b_Model_readPart 246 = .ok (.imul, 1) := by decide +kernel
theorem d_Model_readPart_247 : decode b_Model_readPart 247 = .ok (.iload_n 2, 1) := by decide +kernel
theorem d_Model_readPart_248 : decode b_Model_readPart 248 = .ok (.iadd, 1) := by decide +kernel
theorem d_Model_readPart_249 : decode b_Model_readPart 249 = .ok (.iaload, 1) := by decide +kernel
theorem d_Model_readPart_250 : decode b_Model_readPart 250 = .ok (.iconst 1, 1) := by decide +kernel
theorem d_Model_readPart_251 : decode b_Model_readPart 251 = .ok (.iadd, 1) := by decide +kernel
theorem d_Model_readPart_252 : decode b_Model_readPart 252 = .ok (.iastore, 1) := by decide +kernel
theorem d_Model_readPart_253 : decode b_Model_readPart 253 = .ok (.aload_n 0, 1) := by decide +kernel
theorem d_Model_readPart_254 : decode b_Model_readPart 254 = .ok (.iconst 0, 1) := by decide +kernel
theorem d_Model_readPart_255 : decode b_Model_readPart 255 = .ok (.invokevirtual 248, 3) := by decide +kernel
theorem d_Model_readPart_258 : decode b_Model_readPart 258 = .ok (.aload_n 0, 1) := by decide +kernel
theorem d_Model_readPart_259 : decode b_Model_readPart 259 = .ok (.bipush 111, 2) := by decide +kernel
theorem d_Model_readPart_261 : decode b_Model_readPart 261 = .ok (.bipush 114, 2) := by decide +kernel
theorem d_Model_readPart_263 : decode b_Model_readPart 263 = .ok (.iconst 0, 1) := by decide +kernel
theorem d_Model_readPart_264 : decode b_Model_readPart 264 = .ok (.iconst 0, 1) := by decide +kernel
theorem d_Model_readPart_265 : decode b_Model_readPart 265 = .ok (.iconst 0, 1) := by decide +kernel
theorem d_Model_readPart_266 : decode b_Model_readPart 266 = .ok (.invokevirtual 261, 3) := by decide +kernel
theorem d_Model_readPart_269 : decode b_Model_readPart 269 = .ok (.istore 4, 2) := by decide +kernel
theorem d_Model_readPart_271 : decode b_Model_readPart 271 = .ok (.goto (-168), 3) := by decide +kernel
theorem d_Model_readPart_274 : decode b_Model_readPart 274 = .ok (.aload_n 0, 1) := by decide +kernel
theorem d_Model_readPart_275 : decode b_Model_readPart 275 = .ok (.getfield 39, 3) := by decide +kernel
theorem d_Model_readPart_278 : decode b_Model_readPart 278 = .ok (.iload_n 1, 1) := by decide +kernel
theorem d_Model_readPart_279 : decode b_Model_readPart 279 = .ok (.iload_n 2, 1) := by decide +kernel
theorem d_Model_readPart_280 : decode b_Model_readPart 280 = .ok (.iconst 1, 1) := by decide +kernel
theorem d_Model_readPart_281 : decode b_Model_readPart 281 = .ok (.iadd, 1) := by decide +kernel
theorem d_Model_readPart_282 : decode b_Model_readPart 282 = .ok (.iastore, 1) := by decide +kernel
theorem d_Model_readPart_283 : decode b_Model_readPart 283 = .ok (.iconst 1, 1) := by decide +kernel
theorem d_Model_readPart_284 : decode b_Model_readPart 284 = .ok (.ireturn, 1) := by decide +kernel
theorem d_Model_readText_0 : decode b_Model_readText 0 = .ok (.aload_n 0, 1) := by decide +kernel
theorem d_Model_readText_1 : decode b_Model_readText 1 = .ok (.iconst 0, 1) := by decide +kernel
theorem d_Model_readText_2 : decode b_Model_readText 2 = .ok (.putfield 204, 3) := by decide +kernel
theorem d_Model_readText_5 : decode b_Model_readText 5 = .ok (.aload_n 0, 1) := by decide +kernel
theorem d_Model_readText_6 : decode b_Model_readText 6 = .ok (.aload_n 0, 1) := by decide +kernel
theorem d_Model_readText_7 : decode b_Model_readText 7 = .ok (.getfield 117, 3) := by decide +kernel
theorem d_Model_readText_10 : decode b_Model_readText 10 = .ok (.putfield 245, 3) := by decide +kernel
theorem d_Model_readText_13 : decode b_Model_readText 13 = .ok (.aload_n 0, 1) := by decide +kernel
theorem d_Model_readText_14 : decode b_Model_readText 14 = .ok (.iconst 0, 1) := by decide +kernel
theorem d_Model_readText_15 : decode b_Model_readText 15 = .ok (.invokevirtual 248, 3) := by decide +kernel
theorem d_Model_readText_18 : decode b_Model_readText 18 = .ok (.aload_n 0, 1) := by decide +kernel
theorem d_Model_readText_19 : decode b_Model_readText 19 = .ok (.bipush 112, 2) := by decide +kernel
theorem d_Model_readText_21 : decode b_Model_readText 21 = .ok (.bipush 105, 2) := by decide +kernel
theorem d_Model_readText_23 : decode b_Model_readText 23 = .ok (.bipush 101, 2) := by decide +kernel
theorem d_Model_readText_25 : decode b_Model_readText 25 = .ok (.bipush 99, 2) := by decide +kernel
theorem d_Model_readText_27 : decode b_Model_readText 27 = .ok (.bipush 101, 2) := by decide +kernel
theorem d_Model_readText_29 : decode b_Model_readText 29 = .ok (.invokevirtual 261, 3) := by decide +kernel
theorem d_Model_readText_32 : decode b_Model_readText 32 = .ok (.ifCond .eq 12, 3) := by decide +kernel
theorem d_Model_readText_35 : decode b_Model_readText 35 = .ok (.aload_n 0, 1) := by decide +kernel
theorem d_Model_readText_36 : decode b_Model_readText 36 = .ok (.invokevirtual 265, 3) := by decide +kernel
theorem d_Model_readText_39 : decode b_Model_readText 39 = .ok (.ifCond .ne (-21), 3) := by decide +kernel
theorem d_Model_readText_42 : decode b_Model_readText 42 = .ok (.iconst 0, 1) := by decide +kernel
theorem d_Model_readText_43 : decode b_Model_readText 43 = .ok (.ireturn, 1) := by decide +kernel
theorem d_Model_readText_44 : decode b_Model_readText 44 = .ok (.aload_n 0, 1) := by decide +kernel
theorem d_Model_readText_45 : decode b_Model_readText 45 = .ok (.getfield 222, 3) := by decide +kernel
theorem d_Model_readText_48 : decode b_Model_readText 48 = .ok (.ifCond .eq 11, 3) := by decide +kernel
theorem d_Model_readText_51 : decode b_Model_readText 51 = .ok (.aload_n 0, 1) := by decide +kernel
theorem d_Model_readText_52 : decode b_Model_readText 52 = .ok (.iconst 1, 1) := by decide +kernel
theorem d_Model_readText_53 : decode b_Model_readText 53 = .ok (.invokevirtual 242, 3) := by decide +kernel
theorem d_Model_readText_56 : decode b_Model_readText 56 = .ok (.ifCond .eq 7, 3) := by decide +kernel
theorem d_Model_readText_59 : decode b_Model_readText 59 = .ok (.iconst 1, 1) := by decide +kernel
theorem d_Model_readText_60 : decode b_Model_readText 60 = .ok (.goto 4, 3) := by decide +kernel
theorem d_Model_readText_63 : decode b_Model_readText 63 = .ok (.iconst 0, 1) := by decide +kernel
theorem d_Model_readText_64 : decode b_Model_readText 64 = .ok (.ireturn, 1) := by decide +kernel
theorem d_Model_load_0 : decode b_Model_load 0 = .ok (.aload_n 0, 1) := by decide +kernel
theorem d_Model_load_1 : decode b_Model_load 1 = .ok (.iconst 0, 1) := by decide +kernel
theorem d_Model_load_2 : decode b_Model_load 2 = .ok (.putfield 104, 3) := by decide +kernel
theorem d_Model_load_5 : decode b_Model_load 5 = .ok (.aload_n 0, 1) := by decide +kernel
theorem d_Model_load_6 : decode b_Model_load 6 = .ok (.invokevirtual 269, 3) := by decide +kernel
theorem d_Model_load_9 : decode b_Model_load 9 = .ok (.istore_n 1, 1) := by decide +kernel
theorem d_Model_load_10 : decode b_Model_load 10 = .ok (.aload_n 0, 1) := by decide +kernel
theorem d_Model_load_11 : decode b_Model_load 11 = .ok (.iconst 0, 1) := by decide +kernel
theorem d_Model_load_12 : decode b_Model_load 12 = .ok (.putfield 194, 3) := by decide +kernel
theorem d_Model_load_15 : decode b_Model_load 15 = .ok (.iload_n 1, 1) := by decide +kernel
theorem d_Model_load_16 : decode b_Model_load 16 = .ok (.ifCond .ne 5, 3) := by decide +kernel
theorem d_Model_load_19 : decode b_Model_load 19 = .ok (.iconst (-1), 1) := by decide +kernel
theorem d_Model_load_20 : decode b_Model_load 20 = .ok (.ireturn, 1) := by decide +kernel
theorem d_Model_load_21 : decode b_Model_load 21 = .ok (.aload_n 0, 1) := by decide +kernel
theorem d_Model_load_22 : decode b_Model_load 22 = .ok (.iconst 0, 1) := by decide +kernel
theorem d_Model_load_23 : decode b_Model_load 23 = .ok (.putfield 201, 3) := by decide +kernel
theorem d_Model_load_26 : decode b_Model_load 26 = .ok (.aload_n 0, 1) := by decide +kernel
theorem d_Model_load_27 : decode b_Model_load 27 = .ok (.iconst (-1), 1) := by decide +kernel
theorem d_Model_load_28 : decode b_Model_load 28 = .ok (.putfield 82, 3) := by decide +kernel
theorem d_Model_load_31 : decode b_Model_load 31 = .ok (.aload_n 0, 1) := by decide +kernel
theorem d_Model_load_32 : decode b_Model_load 32 = .ok (.aload_n 0, 1) := by decide +kernel
theorem d_Model_load_33 : decode b_Model_load 33 = .ok (.getfield 245, 3) := by decide +kernel
theorem d_Model_load_36 : decode b_Model_load 36 = .ok (.putfield 117, 3) := by decide +kernel
theorem d_Model_load_39 : decode b_Model_load 39 = .ok (.aload_n 0, 1) := by decide +kernel
theorem d_Model_load_40 : decode b_Model_load 40 = .ok (.getfield 117, 3) := by decide +kernel
theorem d_Model_load_43 : decode b_Model_load 43 = .ok (.ireturn, 1) := by decide +kernel
theorem d_Model_does_0 : decode b_Model_does 0 = .ok (.aload_n 0, 1) := by decide +kernel
theorem d_Model_does_1 : decode b_Model_does 1 = .ok (.getfield 92, 3) := by decide +kernel
theorem d_Model_does_4 : decode b_Model_does 4 = .ok (.aload_n 0, 1) := by decide +kernel
theorem d_Model_does_5 : decode b_Model_does 5 = .ok (.getfield 272, 3) := by decide +kernel
theorem d_Model_does_8 : decode b_Model_does 8 = .ok (.iload_n 1, 1) := by decide +kernel
theorem d_Model_does_9 : decode b_Model_does 9 = .ok (.iastore, 1) := by decide +kernel
theorem d_Model_does_10 : decode b_Model_does 10 = .ok (.aload_n 0, 1) := by decide +kernel
theorem d_Model_does_11 : decode b_Model_does 11 = .ok (.getfield 95, 3) := by decide +kernel
theorem d_Model_does_14 : decode b_Model_does 14 = .ok (.aload_n 0, 1) := by decide +kernel
theorem d_Model_does_15 : decode b_Model_does 15 = .ok (.getfield 272, 3) := by decide +kernel
theorem d_Model_does_18 : decode b_Model_does 18 = .ok (.iload_n 2, 1) := by decide +kernel
theorem d_Model_does_19 : decode b_Model_does 19 = .ok (.iastore, 1) := by decide +kernel
theorem d_Model_does_20 : decode b_Model_does 20 = .ok (.aload_n 0, 1) := by decide +kernel
theorem d_Model_does_21 : decode b_Model_does 21 = .ok (.aload_n 0, 1) := by decide +kernel
theorem d_Model_does_22 : decode b_Model_does 22 = .ok (.getfield 272, 3) := by decide +kernel
theorem d_Model_does_25 : decode b_Model_does 25 = .ok (.iconst 1, 1) := by decide +kernel
theorem d_Model_does_26 : decode b_Model_does 26 = .ok (.iadd, 1) := by decide +kernel
theorem d_Model_does_27 : decode b_Model_does 27 = .ok (.putfield 272, 3) := by decide +kernel
theorem d_Model_does_30 : decode b_Model_does 30 = .ok (.return_, 1) := by decide +kernel
theorem d_Model_rank_0 : decode b_Model_rank 0 = .ok (.iload_n 1, 1) := by decide +kernel
theorem d_Model_rank_1 : decode b_Model_rank 1 = .ok (.bipush 124, 2) := by decide +kernel
theorem d_Model_rank_3 : decode b_Model_rank 3 = .ok (.if_icmp .ne 5, 3) := by decide +kernel
theorem d_Model_rank_6 : decode b_Model_rank 6 = .ok (.iconst 1, 1) := by decide +kernel
theorem d_Model_rank_7 : decode b_Model_rank 7 = .ok (.ireturn, 1) := by decide +kernel
theorem d_Model_rank_8 : decode b_Model_rank 8 = .ok (.iload_n 1, 1) := by decide +kernel
theorem d_Model_rank_9 : decode b_Model_rank 9 = .ok (.bipush 38, 2) := by decide +kernel
theorem d_Model_rank_11 : decode b_Model_rank 11 = .ok (.if_icmp .ne 5, 3) := by decide +kernel
theorem d_Model_rank_14 : decode b_Model_rank 14 = .ok (.iconst 2, 1) := by decide +kernel
theorem d_Model_rank_15 : decode b_Model_rank 15 = .ok (.ireturn, 1) := by decide +kernel
theorem d_Model_rank_16 : decode b_Model_rank 16 = .ok (.iload_n 1, 1) := by decide +kernel
theorem d_Model_rank_17 : decode b_Model_rank 17 = .ok (.bipush 60, 2) := by decide +kernel
theorem d_Model_rank_19 : decode b_Model_rank 19 = .ok (.if_icmp .eq 15, 3) := by decide +kernel
theorem d_Model_rank_22 : decode b_Model_rank 22 = .ok (.iload_n 1, 1) := by decide +kernel
theorem d_Model_rank_23 : decode b_Model_rank 23 = .ok (.bipush 61, 2) := by decide +kernel
theorem d_Model_rank_25 : decode b_Model_rank 25 = .ok (.if_icmp .eq 9, 3) := by decide +kernel
theorem d_Model_rank_28 : decode b_Model_rank 28 = .ok (.iload_n 1, 1) := by decide +kernel
theorem d_Model_rank_29 : decode b_Model_rank 29 = .ok (.bipush 62, 2) := by decide +kernel
theorem d_Model_rank_31 : decode b_Model_rank 31 = .ok (.if_icmp .ne 5, 3) := by decide +kernel
theorem d_Model_rank_34 : decode b_Model_rank 34 = .ok (.iconst 3, 1) := by decide +kernel
theorem d_Model_rank_35 : decode b_Model_rank 35 = .ok (.ireturn, 1) := by decide +kernel
theorem d_Model_rank_36 : decode b_Model_rank 36 = .ok (.iload_n 1, 1) := by decide +kernel
theorem d_Model_rank_37 : decode b_Model_rank 37 = .ok (.bipush 43, 2) := by decide +kernel
theorem d_Model_rank_39 : decode b_Model_rank 39 = .ok (.if_icmp .eq 9, 3) := by decide +kernel
theorem d_Model_rank_42 : decode b_Model_rank 42 = .ok (.iload_n 1, 1) := by decide +kernel
theorem d_Model_rank_43 : decode b_Model_rank 43 = .ok (.bipush 45, 2) := by decide +kernel
theorem d_Model_rank_45 : decode b_Model_rank 45 = .ok (.if_icmp .ne 7, 3) := by decide +kernel
theorem d_Model_rank_48 : decode b_Model_rank 48 = .ok (.iconst 4, 1) := by decide +kernel
theorem d_Model_rank_49 : decode b_Model_rank 49 = .ok (.goto 4, 3) := by decide +kernel
theorem d_Model_rank_52 : decode b_Model_rank 52 = .ok (.iconst 0, 1) := by decide +kernel
theorem d_Model_rank_53 : decode b_Model_rank 53 = .ok (.ireturn, 1) := by decide +kernel
