theorem d_Model_init_105 : decode b_Model_init 105 = .ok (.newarray .int, 2) := by decide +kernel
theorem d_Model_init_107 : decode b_Model_init 107 = .ok (.putfield 48, 3) := by decide +kernel
theorem d_Model_init_110 : decode b_Model_init 110 = .ok (.aload_n 0, 1) := by decide +kernel
theorem d_Model_init_111 : decode b_Model_init 111 = .ok (.bipush 100, 2) := by decide +kernel
theorem d_Model_init_113 : decode b_Model_init 113 = .ok (.newarray .int, 2) := by decide +kernel
theorem d_Model_init_115 : decode b_Model_init 115 = .ok (.putfield 51, 3) := by decide +kernel
theorem d_Model_init_118 : decode b_Model_init 118 = .ok (.aload_n 0, 1) := by decide +kernel
theorem d_Model_init_119 : decode b_Model_init 119 = .ok (.ldc 54, 2) := by decide +kernel
theorem d_Model_init_121 : decode b_Model_init 121 = .ok (.newarray .int, 2) := by decide +kernel
theorem d_Model_init_123 : decode b_Model_init 123 = .ok (.putfield 55, 3) := by decide +kernel
theorem d_Model_init_126 : decode b_Model_init 126 = .ok (.aload_n 0, 1) := by decide +kernel
theorem d_Model_init_127 : decode b_Model_init 127 = .ok (.bipush 10, 2) := by decide +kernel
theorem d_Model_init_129 : decode b_Model_init 129 = .ok (.newarray .int, 2) := by decide +kernel
theorem d_Model_init_131 : decode b_Model_init 131 = .ok (.putfield 58, 3) := by decide +kernel
theorem d_Model_init_134 : decode b_Model_init 134 = .ok (.aload_n 0, 1) := by decide +kernel
theorem d_Model_init_135 : decode b_Model_init 135 = .ok (.sipush 10240, 3) := by decide +kernel
theorem d_Model_init_138 : decode b_Model_init 138 = .ok (.newarray .int, 2) := by decide +kernel
theorem d_Model_init_140 : decode b_Model_init 140 = .ok (.putfield 61, 3) := by decide +kernel
theorem d_Model_init_143 : decode b_Model_init 143 = .ok (.aload_n 0, 1) := by decide +kernel
theorem d_Model_init_144 : decode b_Model_init 144 = .ok (.sipush 10240, 3) := by decide +kernel
theorem d_Model_init_147 : decode b_Model_init 147 = .ok (.newarray .boolean, 2) := by decide +kernel
theorem d_Model_init_149 : decode b_Model_init 149 = .ok (.putfield 64, 3) := by decide +kernel
theorem d_Model_init_152 : decode b_Model_init 152 = .ok (.aload_n 0, 1) := by decide +kernel
theorem d_Model_init_153 : decode b_Model_init 153 = .ok (.bipush 10, 2) := by decide +kernel
theorem d_Model_init_155 : decode b_Model_init 155 = .ok (.newarray .boolean, 2) := by decide +kernel
theorem d_Model_init_157 : decode b_Model_init 157 = .ok (.putfield 67, 3) := by decide +kernel
theorem d_Model_init_160 : decode b_Model_init 160 = .ok (.aload_n 0, 1) := by decide +kernel
theorem d_Model_init_161 : decode b_Model_init 161 = .ok (.sipush 200, 3) := by decide +kernel
theorem d_Model_init_164 : decode b_Model_init 164 = .ok (.newarray .int, 2) := by decide +kernel
theorem d_Model_init_166 : decode b_Model_init 166 = .ok (.putfield 70, 3) := by decide +kernel
theorem d_Model_init_169 : decode b_Model_init 169 = .ok (.aload_n 0, 1) := by decide +kernel
theorem d_Model_init_170 : decode b_Model_init 170 = .ok (.sipush 200, 3) := by decide +kernel
theorem d_Model_init_173 : decode b_Model_init 173 = .ok (.newarray .int, 2) := by decide +kernel
theorem d_Model_init_175 : decode b_Model_init 175 = .ok (.putfield 73, 3) := by decide +kernel
theorem d_Model_init_178 : decode b_Model_init 178 = .ok (.aload_n 0, 1) := by decide +kernel
theorem d_Model_init_179 : decode b_Model_init 179 = .ok (.sipush 200, 3) := by decide +kernel
theorem d_Model_init_182 : decode b_Model_init 182 = .ok (.newarray .int, 2) := by decide +kernel
theorem d_Model_init_184 : decode b_Model_init 184 = .ok (.putfield 76, 3) := by decide +kernel
theorem d_Model_init_187 : decode b_Model_init 187 = .ok (.aload_n 0, 1) := by decide +kernel
theorem d_Model_init_188 : decode b_Model_init 188 = .ok (.sipush 800, 3) := by decide +kernel
theorem d_Model_init_191 : decode b_Model_init 191 = .ok (.newarray .int, 2) := by decide +kernel
theorem d_Model_init_193 : decode b_Model_init 193 = .ok (.putfield 79, 3) := by decide +kernel
theorem d_Model_init_196 : decode b_Model_init 196 = .ok (.aload_n 0, 1) := by decide +kernel
theorem d_Model_init_197 : decode b_Model_init 197 = .ok (.iconst (-1), 1) := by decide +kernel
theorem d_Model_init_198 : decode b_Model_init 198 = .ok (.putfield 82, 3) := by decide +kernel
theorem d_Model_init_201 : decode b_Model_init 201 = .ok (.aload_n 0, 1) := by decide +kernel
theorem d_Model_init_202 : decode b_Model_init 202 = .ok (.sipush 800, 3) := by decide +kernel
theorem d_Model_init_205 : decode b_Model_init 205 = .ok (.newarray .int, 2) := by decide +kernel
theorem d_Model_init_207 : decode b_Model_init 207 = .ok (.putfield 86, 3) := by decide +kernel
theorem d_Model_init_210 : decode b_Model_init 210 = .ok (.aload_n 0, 1) := by decide +kernel
theorem d_Model_init_211 : decode b_Model_init 211 = .ok (.sipush 800, 3) := by decide +kernel
theorem d_Model_init_214 : decode b_Model_init 214 = .ok (.newarray .int, 2) := by decide +kernel
theorem d_Model_init_216 : decode b_Model_init 216 = .ok (.putfield 89, 3) := by decide +kernel
theorem d_Model_init_219 : decode b_Model_init 219 = .ok (.aload_n 0, 1) := by decide +kernel
theorem d_Model_init_220 : decode b_Model_init 220 = .ok (.sipush 800, 3) := by decide +kernel
theorem d_Model_init_223 : decode b_Model_init 223 = .ok (.newarray .int, 2) := by decide +kernel
theorem d_Model_init_225 : decode b_Model_init 225 = .ok (.putfield 92, 3) := by decide +kernel
theorem d_Model_init_228 : decode b_Model_init 228 = .ok (.aload_n 0, 1) := by decide +kernel
theorem d_Model_init_229 : decode b_Model_init 229 = .ok (.sipush 800, 3) := by decide +kernel
theorem d_Model_init_232 : decode b_Model_init 232 = .ok (.newarray .int, 2) := by decide +kernel
theorem d_Model_init_234 : decode b_Model_init 234 = .ok (.putfield 95, 3) := by decide +kernel
theorem d_Model_init_237 : decode b_Model_init 237 = .ok (.aload_n 0, 1) := by decide +kernel
theorem d_Model_init_238 : decode b_Model_init 238 = .ok (.bipush 64, 2) := by decide +kernel
theorem d_Model_init_240 : decode b_Model_init 240 = .ok (.newarray .int, 2) := by decide +kernel
theorem d_Model_init_242 : decode b_Model_init 242 = .ok (.putfield 98, 3) := by decide +kernel
theorem d_Model_init_245 : decode b_Model_init 245 = .ok (.aload_n 0, 1) := by decide +kernel
theorem d_Model_init_246 : decode b_Model_init 246 = .ok (.bipush 64, 2) := by decide +kernel
theorem d_Model_init_248 : decode b_Model_init 248 = .ok (.newarray .int, 2) := by decide +kernel
theorem d_Model_init_250 : decode b_Model_init 250 = .ok (.putfield 101, 3) := by decide +kernel
theorem d_Model_init_253 : decode b_Model_init 253 = .ok (.return_, 1) := by decide +kernel
theorem d_Model_isPlayer_0 : decode b_Model_isPlayer 0 = .ok (.iload_n 1, 1) := by decide +kernel
theorem d_Model_isPlayer_1 : decode b_Model_isPlayer 1 = .ok (.ifCond .lt 15, 3) := by decide +kernel
theorem d_Model_isPlayer_4 : decode b_Model_isPlayer 4 = .ok (.iload_n 1, 1) := by decide +kernel
theorem d_Model_isPlayer_5 : decode b_Model_isPlayer 5 = .ok (.aload_n 0, 1) := by decide +kernel
theorem d_Model_isPlayer_6 : decode b_Model_isPlayer 6 = .ok (.getfield 107, 3) := by decide +kernel
theorem d_Model_isPlayer_9 : decode b_Model_isPlayer 9 = .ok (.if_icmp .ge 7, 3) := by decide +kernel
theorem d_Model_isPlayer_12 : decode b_Model_isPlayer 12 = .ok (.iconst 1, 1) := by decide +kernel
theorem d_Model_isPlayer_13 : decode b_Model_isPlayer 13 = .ok (.goto 4, 3) := by decide +kernel
theorem d_Model_isPlayer_16 : decode b_Model_isPlayer 16 = .ok (.iconst 0, 1) := by decide +kernel
theorem d_Model_isPlayer_17 : decode b_Model_isPlayer 17 = .ok (.ireturn, 1) := by decide +kernel
theorem d_Model_player_0 : decode b_Model_player 0 = .ok (.aload_n 0, 1) := by decide +kernel
theorem d_Model_player_1 : decode b_Model_player 1 = .ok (.iconst 0, 1) := by decide +kernel
theorem d_Model_player_2 : decode b_Model_player 2 = .ok (.putfield 104, 3) := by decide +kernel
theorem d_Model_player_5 : decode b_Model_player 5 = .ok (.iload_n 1, 1) := by decide +kernel
theorem d_Model_player_6 : decode b_Model_player 6 = .ok (.ifCond .lt 29, 3) := by decide +kernel
theorem d_Model_player_9 : decode b_Model_player 9 = .ok (.iload_n 1, 1) := by decide +kernel
theorem d_Model_player_10 : decode b_Model_player 10 = .ok (.bipush 99, 2) := by decide +kernel
theorem d_Model_player_12 : decode b_Model_player 12 = .ok (.if_icmp .gt 23, 3) := by decide +kernel
theorem d_Model_player_15 : decode b_Model_player 15 = .ok (.iload_n 2, 1) := by decide +kernel
theorem d_Model_player_16 : decode b_Model_player 16 = .ok (.ifCond .lt 19, 3) := by decide +kernel
theorem d_Model_player_19 : decode b_Model_player 19 = .ok (.iload_n 2, 1) := by decide +kernel
theorem d_Model_player_20 : decode b_Model_player 20 = .ok (.sipush 999, 3) := by decide +kernel
theorem d_Model_player_23 : decode b_Model_player 23 = .ok (.if_icmp .gt 12, 3) := by decide +kernel
theorem d_Model_player_26 : decode b_Model_player 26 = .ok (.aload_n 0, 1) := by decide +kernel
theorem d_Model_player_27 : decode b_Model_player 27 = .ok (.getfield 107, 3) := by decide +kernel
theorem d_Model_player_30 : decode b_Model_player 30 = .ok (.bipush 14, 2) := by decide +kernel
theorem d_Model_player_32 : decode b_Model_player 32 = .ok (.if_icmp .ne 5, 3) := by decide +kernel
theorem d_Model_player_35 : decode b_Model_player 35 = .ok (.iconst (-1), 1) := by decide +kernel
theorem d_Model_player_36 : decode b_Model_player 36 = .ok (.ireturn, 1) := by decide +kernel
theorem d_Model_player_37 : decode b_Model_player 37 = .ok (.aload_n 0, 1) := by decide +kernel
theorem d_Model_player_38 : decode b_Model_player 38 = .ok (.getfield 7, 3) := by decide +kernel
theorem d_Model_player_41 : decode b_Model_player 41 = .ok (.aload_n 0, 1) := by decide +kernel
theorem d_Model_player_42 : decode b_Model_player 42 = .ok (.getfield 107, 3) := by decide +kernel
theorem d_Model_player_45 : decode b_Model_player 45 = .ok (.iload_n 1, 1) := by decide +kernel
theorem d_Model_player_46 : decode b_Model_player 46 = .ok (.iastore, 1) := by decide +kernel
theorem d_Model_player_47 : decode b_Model_player 47 = .ok (.aload_n 0, 1) := by decide +kernel
theorem d_Model_player_48 : decode b_Model_player 48 = .ok (.getfield 13, 3) := by decide +kernel
theorem d_Model_player_51 : decode b_Model_player 51 = .ok (.aload_n 0, 1) := by decide +kernel
theorem d_Model_player_52 : decode b_Model_player 52 = .ok (.getfield 107, 3) := by decide +kernel
theorem d_Model_player_55 : decode b_Model_player 55 = .ok (.iload_n 2, 1) := by decide +kernel
theorem d_Model_player_56 : decode b_Model_player 56 = .ok (.iastore, 1) := by decide +kernel
theorem d_Model_player_57 : decode b_Model_player 57 = .ok (.aload_n 0, 1) := by decide +kernel
theorem d_Model_player_58 : decode b_Model_player 58 = .ok (.aload_n 0, 1) := by decide +kernel
theorem d_Model_player_59 : decode b_Model_player 59 = .ok (.getfield 107, 3) := by decide +kernel
theorem d_Model_player_62 : decode b_Model_player 62 = .ok (.iconst 1, 1) := by decide +kernel
theorem d_Model_player_63 : decode b_Model_player 63 = .ok (.iadd, 1) := by decide +kernel
theorem d_Model_player_64 : decode b_Model_player 64 = .ok (.putfield 107, 3) := by decide +kernel
theorem d_Model_player_67 : decode b_Model_player 67 = .ok (.aload_n 0, 1) := by decide +kernel
theorem d_Model_player_68 : decode b_Model_player 68 = .ok (.getfield 107, 3) := by decide +kernel
theorem d_Model_player_71 : decode b_Model_player 71 = .ok (.iconst 1, 1) := by decide +kernel
theorem d_Model_player_72 : decode b_Model_player 72 = .ok (.isub, 1) := by decide +kernel
theorem d_Model_player_73 : decode b_Model_player 73 = .ok (.ireturn, 1) := by decide +kernel
theorem d_Model_isInstrument_0 : decode b_Model_isInstrument 0 = .ok (.iload_n 1, 1) := by decide +kernel
theorem d_Model_isInstrument_1 : decode b_Model_isInstrument 1 = .ok (.ifCond .lt 13, 3) := by decide +kernel
theorem d_Model_isInstrument_4 : decode b_Model_isInstrument 4 = .ok (.iload_n 1, 1) := by decide +kernel
theorem d_Model_isInstrument_5 : decode b_Model_isInstrument 5 = .ok (.bipush 10, 2) := by decide +kernel
theorem d_Model_isInstrument_7 : decode b_Model_isInstrument 7 = .ok (.if_icmp .ge 7, 3) := by decide +kernel
theorem d_Model_isInstrument_10 : decode b_Model_isInstrument 10 = .ok (.iconst 1, 1) := by decide +kernel
theorem d_Model_isInstrument_11 : decode b_Model_isInstrument 11 = .ok (.goto 4, 3) := by decide +kernel
theorem d_Model_isInstrument_14 : decode b_Model_isInstrument 14 = .ok (.iconst 0, 1) := by decide +kernel
theorem d_Model_isInstrument_15 : decode b_Model_isInstrument 15 = .ok (.ireturn, 1) := by decide +kernel
theorem d_Model_plays_0 : decode b_Model_plays 0 = .ok (.aload_n 0, 1) := by decide +kernel
theorem d_Model_plays_1 : decode b_Model_plays 1 = .ok (.iconst 0, 1) := by decide +kernel
theorem d_Model_plays_2 : decode b_Model_plays 2 = .ok (.putfield 104, 3) := by decide +kernel
theorem d_Model_plays_5 : decode b_Model_plays 5 = .ok (.aload_n 0, 1) := by decide +kernel
theorem d_Model_plays_6 : decode b_Model_plays 6 = .ok (.iload_n 1, 1) := by decide +kernel
theorem d_Model_plays_7 : decode b_Model_plays 7 = .ok (.invokevirtual 110, 3) := by decide +kernel
theorem d_Model_plays_10 : decode b_Model_plays 10 = .ok (.ifCond .eq 22, 3) := by decide +kernel
theorem d_Model_plays_13 : decode b_Model_plays 13 = .ok (.aload_n 0, 1) := by decide +kernel
theorem d_Model_plays_14 : decode b_Model_plays 14 = .ok (.iload_n 2, 1) := by decide +kernel
theorem d_Model_plays_15 : decode b_Model_plays 15 = .ok (.invokevirtual 114, 3) := by decide +kernel
theorem d_Model_plays_18 : decode b_Model_plays 18 = .ok (.ifCond .eq 14, 3) := by decide +kernel
theorem d_Model_plays_21 : decode b_Model_plays 21 = .ok (.iload_n 3, 1) := by decide +kernel
theorem d_Model_plays_22 : decode b_Model_plays 22 = .ok (.iconst (-1), 1) := by decide +kernel
theorem d_Model_plays_23 : decode b_Model_plays 23 = .ok (.if_icmp .lt 9, 3) := by decide +kernel
theorem d_Model_plays_26 : decode b_Model_plays 26 = .ok (.iload_n 3, 1) := by decide +kernel
theorem d_Model_plays_27 : decode b_Model_plays 27 = .ok (.bipush 9, 2) := by decide +kernel
theorem d_Model_plays_29 : decode b_Model_plays 29 = .ok (.if_icmp .le 5, 3) := by decide +kernel
theorem d_Model_plays_32 : decode b_Model_plays 32 = .ok (.iconst 0, 1) := by decide +kernel
theorem d_Model_plays_33 : decode b_Model_plays 33 = .ok (.ireturn, 1) := by decide +kernel
theorem d_Model_plays_34 : decode b_Model_plays 34 = .ok (.aload_n 0, 1) := by decide +kernel
theorem d_Model_plays_35 : decode b_Model_plays 35 = .ok (.getfield 23, 3) := by decide +kernel
theorem d_Model_plays_38 : decode b_Model_plays 38 = .ok (.bipush 10, 2) := by decide +kernel
theorem d_Model_plays_40 : decode b_Model_plays 40 = .ok (.iload_n 1, 1) := by decide +kernel
theorem d_Model_plays_41 : decode b_Model_plays 41 = .ok (.imul, 1) := by decide +kernel
theorem d_Model_plays_42 : decode b_Model_plays 42 = .ok (.iload_n 2, 1) := by decide +kernel
theorem d_Model_plays_43 : decode b_Model_plays 43 = .ok (.iadd, 1) := by decide +kernel
theorem d_Model_plays_44 : decode b_Model_plays 44 = .ok (.iload_n 3, 1) := by decide +kernel
theorem d_Model_plays_45 : decode b_Model_plays 45 = .ok (.iconst 1, 1) := by decide +kernel
theorem d_Model_plays_46 : decode b_Model_plays 46 = .ok (.iadd, 1) := by decide +kernel
theorem d_Model_plays_47 : decode b_Model_plays 47 = .ok (.iastore, 1) := by decide +kernel
theorem d_Model_plays_48 : decode b_Model_plays 48 = .ok (.iconst 1, 1) := by decide +kernel
theorem d_Model_plays_49 : decode b_Model_plays 49 = .ok (.ireturn, 1) := by decide +kernel
theorem d_Model_cost_0 : decode b_Model_cost 0 = .ok (.aload_n 0, 1) := by decide +kernel
theorem d_Model_cost_1 : decode b_Model_cost 1 = .ok (.iconst 0, 1) := by decide +kernel
theorem d_Model_cost_2 : decode b_Model_cost 2 = .ok (.putfield 104, 3) := by decide +kernel
theorem d_Model_cost_5 : decode b_Model_cost 5 = .ok (.aload_n 0, 1) := by decide +kernel
theorem d_Model_cost_6 : decode b_Model_cost 6 = .ok (.iload_n 1, 1) := by decide +kernel
theorem d_Model_cost_7 : decode b_Model_cost 7 = .ok (.invokevirtual 110, 3) := by decide +kernel
theorem d_Model_cost_10 : decode b_Model_cost 10 = .ok (.ifCond .eq 27, 3) := by decide +kernel
theorem d_Model_cost_13 : decode b_Model_cost 13 = .ok (.aload_n 0, 1) := by decide +kernel
theorem d_Model_cost_14 : decode b_Model_cost 14 = .ok (.iload_n 2, 1) := by decide +kernel
theorem d_Model_cost_15 : decode b_Model_cost 15 = .ok (.invokevirtual 114, 3) := by decide +kernel
theorem d_Model_cost_18 : decode b_Model_cost 18 = .ok (.ifCond .eq 19, 3) := by decide +kernel
theorem d_Model_cost_21 : decode b_Model_cost 21 = .ok (.aload_n 0, 1) := by decide +kernel
theorem d_Model_cost_22 : decode b_Model_cost 22 = .ok (.getfield 23, 3) := by decide +kernel
theorem d_Model_cost_25 : decode b_Model_cost 25 = .ok (.bipush 10, 2) := by decide +kernel
theorem d_Model_cost_27 : decode b_Model_cost 27 = .ok (.iload_n 1, 1) := by decide +kernel
theorem d_Model_cost_28 : decode b_Model_cost 28 = .ok (.imul, 1) := by decide +kernel
theorem d_Model_cost_29 : decode b_Model_cost 29 = .ok (.iload_n 2, 1) := by decide +kernel
theorem d_Model_cost_30 : decode b_Model_cost 30 = .ok (.iadd, 1) := by decide +kernel
theorem d_Model_cost_31 : decode b_Model_cost 31 = .ok (.iaload, 1) := by decide +kernel
theorem d_Model_cost_32 : decode b_Model_cost 32 = .ok (.iconst 1, 1) := by decide +kernel
theorem d_Model_cost_33 : decode b_Model_cost 33 = .ok (.isub, 1) := by decide +kernel
theorem d_Model_cost_34 : decode b_Model_cost 34 = .ok (.goto 4, 3) := by decide +kernel
theorem d_Model_cost_37 : decode b_Model_cost 37 = .ok (.iconst (-1), 1) := by decide +kernel
theorem d_Model_cost_38 : decode b_Model_cost 38 = .ok (.ireturn, 1) := by decide +kernel
theorem d_Model_here_0 : decode b_Model_here 0 = .ok (.aload_n 0, 1) := by decide +kernel
theorem d_Model_here_1 : decode b_Model_here 1 = .ok (.iconst 0, 1) := by decide +kernel
theorem d_Model_here_2 : decode b_Model_here 2 = .ok (.putfield 104, 3) := by decide +kernel
theorem d_Model_here_5 : decode b_Model_here 5 = .ok (.aload_n 0, 1) := by decide +kernel
theorem d_Model_here_6 : decode b_Model_here 6 = .ok (.iload_n 1, 1) := by decide +kernel
theorem d_Model_here_7 : decode b_Model_here 7 = .ok (.invokevirtual 110, 3) := by decide +kernel
theorem d_Model_here_10 : decode b_Model_here 10 = .ok (.ifCond .ne 5, 3) := by decide +kernel
theorem d_Model_here_13 : decode b_Model_here 13 = .ok (.iconst 0, 1) := by decide +kernel
theorem d_Model_here_14 : decode b_Model_here 14 = .ok (.ireturn, 1) := by decide +kernel
theorem d_Model_here_15 : decode b_Model_here 15 = .ok (.aload_n 0, 1) := by decide +kernel
theorem d_Model_here_16 : decode b_Model_here 16 = .ok (.getfield 19, 3) := by decide +kernel
theorem d_Model_here_19 : decode b_Model_here 19 = .ok (.iload_n 1, 1) := by decide +kernel
theorem d_Model_here_20 : decode b_Model_here 20 = .ok (.iload_n 2, 1) := by decide +kernel
theorem d_Model_here_21 : decode b_Model_here 21 = .ok (.bastore, 1) := by decide +kernel
theorem d_Model_here_22 : decode b_Model_here 22 = .ok (.iconst 1, 1) := by decide +kernel
theorem d_Model_here_23 : decode b_Model_here 23 = .ok (.ireturn, 1) := by decide +kernel
theorem d_Model_isPiece_0 : decode b_Model_isPiece 0 = .ok (.iload_n 1, 1) := by decide +kernel
theorem d_Model_isPiece_1 : decode b_Model_isPiece 1 = .ok (.ifCond .lt 15, 3) := by decide +kernel
theorem d_Model_isPiece_4 : decode b_Model_isPiece 4 = .ok (.iload_n 1, 1) := by decide +kernel
theorem d_Model_isPiece_5 : decode b_Model_isPiece 5 = .ok (.aload_n 0, 1) := by decide +kernel
theorem d_Model_isPiece_6 : decode b_Model_isPiece 6 = .ok (.getfield 117, 3) := by decide +kernel
theorem d_Model_isPiece_9 : decode b_Model_isPiece 9 = .ok (.if_icmp .ge 7, 3) := by decide +kernel
theorem d_Model_isPiece_12 : decode b_Model_isPiece 12 = .ok (.iconst 1, 1) := by decide +kernel
theorem d_Model_isPiece_13 : decode b_Model_isPiece 13 = .ok (.goto 4, 3) := by decide +kernel
theorem d_Model_isPiece_16 : decode b_Model_isPiece 16 = .ok (.iconst 0, 1) := by decide +kernel
theorem d_Model_isPiece_17 : decode b_Model_isPiece 17 = .ok (.ireturn, 1) := by decide +kernel
theorem d_Model_costOf_0 : decode b_Model_costOf 0 = .ok (.iconst (-1), 1) := by decide +kernel
theorem d_Model_costOf_1 : decode b_Model_costOf 1 = .ok (.istore 4, 2) := by decide +kernel
theorem d_Model_costOf_3 : decode b_Model_costOf 3 = .ok (.iconst 0, 1) := by decide +kernel
theorem d_Model_costOf_4 : decode b_Model_costOf 4 = .ok (.istore 5, 2) := by decide +kernel
theorem d_Model_costOf_6 : decode b_Model_costOf 6 = .ok (.iload 5, 2) := by decide +kernel
theorem d_Model_costOf_8 : decode b_Model_costOf 8 = .ok (.aload_n 0, 1) := by decide +kernel
theorem d_Model_costOf_9 : decode b_Model_costOf 9 = .ok (.getfield 45, 3) := by decide +kernel
theorem d_Model_costOf_12 : decode b_Model_costOf 12 = .ok (.bipush 10, 2) := by decide +kernel
theorem d_Model_costOf_14 : decode b_Model_costOf 14 = .ok (.iload_n 1, 1) := by decide +kernel
theorem d_Model_costOf_15 : decode b_Model_costOf 15 = .ok (.imul, 1) := by decide +kernel
theorem d_Model_costOf_16 : decode b_Model_costOf 16 = .ok (.iload_n 2, 1) := by decide +kernel
theorem d_Model_costOf_17 : decode b_Model_costOf 17 = .ok (.iadd, 1) := by decide +kernel
theorem d_Model_costOf_18 : decode b_Model_costOf 18 = .ok (.iaload, 1) := by decide +kernel
theorem d_Model_costOf_19 : decode b_Model_costOf 19 = .ok (.if_icmp .ge 61, 3) := by decide +kernel
theorem d_Model_costOf_22 : decode b_Model_costOf 22 = .ok (.aload_n 0, 1) := by decide +kernel
theorem d_Model_costOf_23 : decode b_Model_costOf 23 = .ok (.getfield 23, 3) := by decide +kernel
theorem d_Model_costOf_26 : decode b_Model_costOf 26 = .ok (.bipush 10, 2) := by decide +kernel
theorem d_Model_costOf_28 : decode b_Model_costOf 28 = .ok (.iload_n 3, 1) := by decide +kernel
theorem d_Model_costOf_29 : decode b_Model_costOf 29 = .ok (.imul, 1) := by decide +kernel
theorem d_Model_costOf_30 : decode b_Model_costOf 30 = .ok (.aload_n 0, 1) := by decide +kernel
theorem d_Model_costOf_31 : decode b_Model_costOf 31 = .ok (.getfield 48, 3) := by decide +kernel
theorem d_Model_costOf_34 : decode b_Model_costOf 34 = .ok (.bipush 40, 2) := by decide +kernel
theorem d_Model_costOf_36 : decode b_Model_costOf 36 = .ok (.iload_n 1, 1) := by decide +kernel
theorem d_Model_costOf_37 : decode b_Model_costOf 37 = .ok (.imul, 1) := by decide +kernel
theorem d_Model_costOf_38 : decode b_Model_costOf 38 = .ok (.iconst 4, 1) := by decide +kernel
theorem d_Model_costOf_39 : decode b_Model_costOf 39 = .ok (.iload_n 2, 1) := by decide +kernel
theorem d_Model_costOf_40 : decode b_Model_costOf 40 = .ok (.imul, 1) := by decide +kernel
theorem d_Model_costOf_41 : decode b_Model_costOf 41 = .ok (.iadd, 1) := by decide +kernel
theorem d_Model_costOf_42 : decode b_Model_costOf 42 = .ok (.iload 5, 2) := by decide +kernel
theorem d_Model_costOf_44 : decode b_Model_costOf 44 = .ok (.iadd, 1) := by decide +kernel
theorem d_Model_costOf_45 : decode b_Model_costOf 45 = .ok (.iaload, 1) := by decide +kernel
theorem d_Model_costOf_46 : decode b_Model_costOf 46 = .ok (.iadd, 1) := by decide +kernel
theorem d_Model_costOf_47 : decode b_Model_costOf 47 = .ok (.iaload, 1) := by decide +kernel
theorem d_Model_costOf_48 : decode b_Model_costOf 48 = .ok (.iconst 1, 1) := by decide +kernel
theorem d_Model_costOf_49 : decode b_Model_costOf 49 = .ok (.isub, 1) := by decide +kernel
theorem d_Model_costOf_50 : decode b_Model_costOf 50 = .ok (.istore 6, 2) := by decide +kernel
theorem d_Model_costOf_52 : decode b_Model_costOf 52 = .ok (.iload 6, 2) := by decide +kernel
theorem d_Model_costOf_54 : decode b_Model_costOf 54 = .ok (.ifCond .lt 20, 3) := by decide +kernel
theorem d_Model_costOf_57 : decode b_Model_costOf 57 = .ok (.iload 4, 2) := by decide +kernel
theorem d_Model_costOf_59 : decode b_Model_costOf 59 = .ok (.iconst (-1), 1) := by decide +kernel
theorem d_Model_costOf_60 : decode b_Model_costOf 60 = .ok (.if_icmp .eq 10, 3) := by decide +kernel
theorem d_Model_costOf_63 : decode b_Model_costOf 63 = .ok (.iload 6, 2) := by decide +kernel
theorem d_Model_costOf_65 : decode b_Model_costOf 65 = .ok (.iload 4, 2) := by decide +kernel
theorem d_Model_costOf_67 : decode b_Model_costOf 67 = .ok (.if_icmp .ge 7, 3) := by decide +kernel
theorem d_Model_costOf_70 : decode b_Model_costOf 70 = .ok (.iload 6, 2) := by decide +kernel
theorem d_Model_costOf_72 : decode b_Model_costOf 72 = .ok (.istore 4, 2) := by decide +kernel
theorem d_Model_costOf_74 : decode b_Model_costOf 74 = .ok (.iinc 5 1, 3) := by decide +kernel
theorem d_Model_costOf_77 : decode b_Model_costOf 77 = .ok (.goto (-71), 3) := by decide +kernel
theorem d_Model_costOf_80 : decode b_Model_costOf 80 = .ok (.iload 4, 2) := by decide +kernel
theorem d_Model_costOf_82 : decode b_Model_costOf 82 = .ok (.ireturn, 1) := by decide +kernel
theorem d_Model_isMust_0 : decode b_Model_isMust 0 = .ok (.aload_n 0, 1) := by decide +kernel
theorem d_Model_isMust_1 : decode b_Model_isMust 1 = .ok (.getfield 42, 3) := by decide +kernel
theorem d_Model_isMust_4 : decode b_Model_isMust 4 = .ok (.iload_n 1, 1) := by decide +kernel
theorem d_Model_isMust_5 : decode b_Model_isMust 5 = .ok (.iaload, 1) := by decide +kernel
theorem d_Model_isMust_6 : decode b_Model_isMust 6 = .ok (.iload_n 2, 1) := by decide +kernel
theorem d_Model_isMust_7 : decode b_Model_isMust 7 = .ok (.ishr, 1) := by decide +kernel
theorem d_Model_isMust_8 : decode b_Model_isMust 8 = .ok (.iconst 1, 1) := by decide +kernel
theorem d_Model_isMust_9 : decode b_Model_isMust 9 = .ok (.iand, 1) := by decide +kernel
theorem d_Model_isMust_10 : decode b_Model_isMust 10 = .ok (.iconst 1, 1) := by decide +kernel
theorem d_Model_isMust_11 : decode b_Model_isMust 11 = .ok (.if_icmp .ne 7, 3) := by decide +kernel
theorem d_Model_isMust_14 : decode b_Model_isMust 14 = .ok (.iconst 1, 1) := by decide +kernel
theorem d_Model_isMust_15 : decode b_Model_isMust 15 = .ok (.goto 4, 3) := by decide +kernel
theorem d_Model_isMust_18 : decode b_Model_isMust 18 = .ok (.iconst 0, 1) := by decide +kernel
theorem d_Model_isMust_19 : decode b_Model_isMust 19 = .ok (.ireturn, 1) := by decide +kernel
theorem d_Model_piece_0 : decode b_Model_piece 0 = .ok (.aload_n 0, 1) := by decide +kernel
theorem d_Model_piece_1 : decode b_Model_piece 1 = .ok (.iconst 0, 1) := by decide +kernel
theorem d_Model_piece_2 : decode b_Model_piece 2 = .ok (.putfield 104, 3) := by decide +kernel
theorem d_Model_piece_5 : decode b_Model_piece 5 = .ok (.aload_n 0, 1) := by decide +kernel
theorem d_Model_piece_6 : decode b_Model_piece 6 = .ok (.iload_n 1, 1) := by decide +kernel
theorem d_Model_piece_7 : decode b_Model_piece 7 = .ok (.invokevirtual 120, 3) := by decide +kernel
theorem d_Model_piece_10 : decode b_Model_piece 10 = .ok (.ifCond .ne 5, 3) := by decide +kernel
theorem d_Model_piece_13 : decode b_Model_piece 13 = .ok (.iconst (-1), 1) := by decide +kernel
theorem d_Model_piece_14 : decode b_Model_piece 14 = .ok (.ireturn, 1) := by decide +kernel
theorem d_Model_piece_15 : decode b_Model_piece 15 = .ok (.iload_n 2, 1) := by decide +kernel
theorem d_Model_piece_16 : decode b_Model_piece 16 = .ok (.ifCond .ne 10, 3) := by decide +kernel
theorem d_Model_piece_19 : decode b_Model_piece 19 = .ok (.aload_n 0, 1) := by decide +kernel
theorem d_Model_piece_20 : decode b_Model_piece 20 = .ok (.getfield 30, 3) := by decide +kernel
theorem d_Model_piece_23 : decode b_Model_piece 23 = .ok (.iload_n 1, 1) := by decide +kernel
theorem d_Model_piece_24 : decode b_Model_piece 24 = .ok (.iaload, 1) := by decide +kernel
theorem d_Model_piece_25 : decode b_Model_piece 25 = .ok (.ireturn, 1) := by decide +kernel
theorem d_Model_piece_26 : decode b_Model_piece 26 = .ok (.iload_n 2, 1) := by decide +kernel
theorem d_Model_piece_27 : decode b_Model_piece 27 = .ok (.iconst 1, 1) := by decide +kernel
theorem d_Model_piece_28 : decode b_Model_piece 28 = .ok (.if_icmp .ne 10, 3) := by decide +kernel
theorem d_Model_piece_31 : decode b_Model_piece 31 = .ok (.aload_n 0, 1) := by decide +kernel
theorem d_Model_piece_32 : decode b_Model_piece 32 = .ok (.getfield 33, 3) := by decide +kernel
theorem d_Model_piece_35 : decode b_Model_piece 35 = .ok (.iload_n 1, 1) := by decide +kernel
theorem d_Model_piece_36 : decode b_Model_piece 36 = .ok (.iaload, 1) := by decide +kernel
theorem d_Model_piece_37 : decode b_Model_piece 37 = .ok (.ireturn, 1) := by decide +kernel
theorem d_Model_piece_38 : decode b_Model_piece 38 = .ok (.iload_n 2, 1) := by decide +kernel
theorem d_Model_piece_39 : decode b_Model_piece 39 = .ok (.iconst 2, 1) := by decide +kernel
theorem d_Model_piece_40 : decode b_Model_piece 40 = .ok (.if_icmp .ne 10, 3) := by decide +kernel
theorem d_Model_piece_43 : decode b_Model_piece 43 = .ok (.aload_n 0, 1) := by decide +kernel
theorem d_Model_piece_44 : decode b_Model_piece 44 = .ok (.getfield 36, 3) := by decide +kernel
theorem d_Model_piece_47 : decode b_Model_piece 47 = .ok (.iload_n 1, 1) := by decide +kernel
theorem d_Model_piece_48 : decode b_Model_piece 48 = .ok (.iaload, 1) := by decide +kernel
theorem d_Model_piece_49 : decode b_Model_piece 49 = .ok (.ireturn, 1) := by decide +kernel
theorem d_Model_piece_50 : decode b_Model_piece 50 = .ok (.iload_n 2, 1) := by decide +kernel
theorem d_Model_piece_51 : decode b_Model_piece 51 = .ok (.iconst 3, 1) := by decide +kernel
theorem d_Model_piece_52 : decode b_Model_piece 52 = .ok (.if_icmp .ne 10, 3) := by decide +kernel
theorem d_Model_piece_55 : decode b_Model_piece 55 = .ok (.aload_n 0, 1) := by decide +kernel
theorem d_Model_piece_56 : decode b_Model_piece 56 = .ok (.getfield 39, 3) := by decide +kernel
theorem d_Model_piece_59 : decode b_Model_piece 59 = .ok (.iload_n 1, 1) := by decide +kernel
theorem d_Model_piece_60 : decode b_Model_piece 60 = .ok (.iaload, 1) := by decide +kernel
theorem d_Model_piece_61 : decode b_Model_piece 61 = .ok (.ireturn, 1) := by decide +kernel
theorem d_Model_piece_62 : decode b_Model_piece 62 = .ok (.iload_n 2, 1) := by decide +kernel
theorem d_Model_piece_63 : decode b_Model_piece 63 = .ok (.iconst 4, 1) := by decide +kernel
theorem d_Model_piece_64 : decode b_Model_piece 64 = .ok (.if_icmp .ne 10, 3) := by decide +kernel
theorem d_Model_piece_67 : decode b_Model_piece 67 = .ok (.aload_n 0, 1) := by decide +kernel
theorem d_Model_piece_68 : decode b_Model_piece 68 = .ok (.getfield 42, 3) := by decide +kernel
theorem d_Model_piece_71 : decode b_Model_piece 71 = .ok (.iload_n 1, 1) := by decide +kernel
theorem d_Model_piece_72 : decode b_Model_piece 72 = .ok (.iaload, 1) := by decide +kernel
theorem d_Model_piece_73 : decode b_Model_piece 73 = .ok (.ireturn, 1) := by decide +kernel
theorem d_Model_piece_74 : decode b_Model_piece 74 = .ok (.iload_n 2, 1) := by decide +kernel
theorem d_Model_piece_75 : decode b_Model_piece 75 = .ok (.bipush 10, 2) := by decide +kernel
theorem d_Model_piece_77 : decode b_Model_piece 77 = .ok (.if_icmp .lt 31, 3) := by decide +kernel
theorem d_Model_piece_80 : decode b_Model_piece 80 = .ok (.iload_n 2, 1) := by decide +kernel
theorem d_Model_piece_81 : decode b_Model_piece 81 = .ok (.bipush 10, 2) := by decide +kernel
theorem d_Model_piece_83 : decode b_Model_piece 83 = .ok (.isub, 1) := by decide +kernel
theorem d_Model_piece_84 : decode b_Model_piece 84 = .ok (.aload_n 0, 1) := by decide +kernel
theorem d_Model_piece_85 : decode b_Model_piece 85 = .ok (.getfield 39, 3) := by decide +kernel
theorem d_Model_piece_88 : decode b_Model_piece 88 = .ok (.iload_n 1, 1) := by decide +kernel
theorem d_Model_piece_89 : decode b_Model_piece 89 = .ok (.iaload, 1) := by decide +kernel
theorem d_Model_piece_90 : decode b_Model_piece 90 = .ok (.if_icmp .ge 18, 3) := by decide +kernel
theorem d_Model_piece_93 : decode b_Model_piece 93 = .ok (.aload_n 0, 1) := by decide +kernel
theorem d_Model_piece_94 : decode b_Model_piece 94 = .ok (.getfield 45, 3) := by decide +kernel
theorem d_Model_piece_97 : decode b_Model_piece 97 = .ok (.bipush 10, 2) := by decide +kernel
theorem d_Model_piece_99 : decode b_Model_piece 99 = .ok (.iload_n 1, 1) := by decide +kernel
theorem d_Model_piece_100 : decode b_Model_piece 100 = .ok (.imul, 1) := by decide +kernel
theorem d_Model_piece_101 : decode b_Model_piece 101 = .ok (.iload_n 2, 1) := by decide +kernel
theorem d_Model_piece_102 : decode b_Model_piece 102 = .ok (.iadd, 1) := by decide +kernel
theorem d_Model_piece_103 : decode b_Model_piece 103 = .ok (.bipush 10, 2) := by decide +kernel
theorem d_Model_piece_105 : decode b_Model_piece 105 = .ok (.isub, 1) := by decide +kernel
theorem d_Model_piece_106 : decode b_Model_piece 106 = .ok (.iaload, 1) := by decide +kernel
theorem d_Model_piece_107 : decode b_Model_piece 107 = .ok (.ireturn, 1) := by decide +kernel
theorem d_Model_piece_108 : decode b_Model_piece 108 = .ok (.iload_n 2, 1) := by decide +kernel
theorem d_Model_piece_109 : decode b_Model_piece 109 = .ok (.bipush 100, 2) := by decide +kernel
theorem d_Model_piece_111 : decode b_Model_piece 111 = .ok (.isub, 1) := by decide +kernel
theorem d_Model_piece_112 : decode b_Model_piece 112 = .ok (.bipush 10, 2) := by decide +kernel
theorem d_Model_piece_114 : decode b_Model_piece 114 = .ok (.idiv, 1) := by decide +kernel
theorem d_Model_piece_115 : decode b_Model_piece 115 = .ok (.istore_n 3, 1) := by decide +kernel
theorem d_Model_piece_116 : decode b_Model_piece 116 = .ok (.iload_n 2, 1) := by decide +kernel
theorem d_Model_piece_117 : decode b_Model_piece 117 = .ok (.bipush 100, 2) := by decide +kernel
theorem d_Model_piece_119 : decode b_Model_piece 119 = .ok (.isub, 1) := by decide +kernel
theorem d_Model_piece_120 : decode b_Model_piece 120 = .ok (.bipush 10, 2) := by decide +kernel
theorem d_Model_piece_122 : decode b_Model_piece 122 = .ok (.irem, 1) := by decide +kernel
theorem d_Model_piece_123 : decode b_Model_piece 123 = .ok (.istore 4, 2) := by decide +kernel
theorem d_Model_piece_125 : decode b_Model_piece 125 = .ok (.iload_n 2, 1) := by decide +kernel
theorem d_Model_piece_126 : decode b_Model_piece 126 = .ok (.bipush 100, 2) := by decide +kernel
theorem d_Model_piece_128 : decode b_Model_piece 128 = .ok (.if_icmp .lt 29, 3) := by decide +kernel
theorem d_Model_piece_131 : decode b_Model_piece 131 = .ok (.iload_n 3, 1) := by decide +kernel
theorem d_Model_piece_132 : decode b_Model_piece 132 = .ok (.aload_n 0, 1) := by decide +kernel
theorem d_Model_piece_133 : decode b_Model_piece 133 = .ok (.getfield 39, 3) := by decide +kernel
theorem d_Model_piece_136 : decode b_Model_piece 136 = .ok (.iload_n 1, 1) := by decide +kernel
theorem d_Model_piece_137 : decode b_Model_piece 137 = .ok (.iaload, 1) := by decide +kernel
theorem d_Model_piece_138 : decode b_Model_piece 138 = .ok (.if_icmp .ge 19, 3) := by decide +kernel
theorem d_Model_piece_141 : decode b_Model_piece 141 = .ok (.iload 4, 2) := by decide +kernel
theorem d_Model_piece_143 : decode b_Model_piece 143 = .ok (.aload_n 0, 1) := by decide +kernel
theorem d_Model_piece_144 : decode b_Model_piece 144 = .ok (.getfield 45, 3) := by decide +kernel
theorem d_Model_piece_147 : decode b_Model_piece 147 = .ok (.bipush 10, 2) := by decide +kernel
theorem d_Model_piece_149 : decode b_Model_piece 149 = .ok (.iload_n 1, 1) := by decide +kernel
theorem d_Model_piece_150 : decode b_Model_piece 150 = .ok (.imul, 1) := by decide +kernel
theorem d_Model_piece_151 : decode b_Model_piece 151 = .ok (.iload_n 3, 1) := by decide +kernel
theorem d_Model_piece_152 : decode b_Model_piece 152 = .ok (.iadd, 1) := by decide +kernel
theorem d_Model_piece_153 : decode b_Model_piece 153 = .ok (.iaload, 1) := by decide +kernel
theorem d_Model_piece_154 : decode b_Model_piece 154 = .ok (.if_icmp .lt 5, 3) := by decide +kernel
theorem d_Model_piece_157 : decode b_Model_piece 157 = .ok (.iconst (-1), 1) := by decide +kernel
theorem d_Model_piece_158 : decode b_Model_piece 158 = .ok (.ireturn, 1) := by decide +kernel
theorem d_Model_piece_159 : decode b_Model_piece 159 = .ok (.aload_n 0, 1) := by decide +kernel
theorem d_Model_piece_160 : decode b_Model_piece 160 = .ok (.getfield 48, 3) := by decide +kernel
theorem d_Model_piece_163 : decode b_Model_piece 163 = .ok (.bipush 40, 2) := by decide +kernel
theorem d_Model_piece_165 : decode b_Model_piece 165 = .ok (.iload_n 1, 1) := by decide +kernel
theorem d_Model_piece_166 : decode b_Model_piece 166 = .ok (.imul, 1) := by decide +kernel
theorem d_Model_piece_167 : decode b_Model_piece 167 = .ok (.iconst 4, 1) := by decide +kernel
theorem d_Model_piece_168 : decode b_Model_piece 168 = .ok (.iload_n 3, 1) := by decide +kernel
theorem d_Model_piece_169 : decode b_Model_piece 169 = .ok (.imul, 1) := by decide +kernel
theorem d_Model_piece_170 : decode b_Model_piece 170 = .ok (.iadd, 1) := by decide +kernel
theorem d_Model_piece_171 : decode b_Model_piece 171 = .ok (.iload 4, 2) := by decide +kernel
theorem d_Model_piece_173 : decode b_Model_piece 173 = .ok (.iadd, 1) := by decide +kernel
theorem d_Model_piece_174 : decode b_Model_piece 174 = .ok (.iaload, 1) := by decide +kernel
theorem d_Model_piece_175 : decode b_Model_piece 175 = .ok (.ireturn, 1) := by decide +kernel
theorem d_Model_ones_0 : decode b_Model_ones 0 = .ok (.iconst 0, 1) := by decide +kernel
theorem d_Model_ones_1 : decode b_Model_ones 1 = .ok (.istore_n 2, 1) := by decide +kernel
theorem d_Model_ones_2 : decode b_Model_ones 2 = .ok (.iload_n 1, 1) := by decide +kernel
theorem d_Model_ones_3 : decode b_Model_ones 3 = .ok (.istore_n 3, 1) := by decide +kernel
theorem d_Model_ones_4 : decode b_Model_ones 4 = .ok (.iload_n 3, 1) := by decide +kernel
theorem d_Model_ones_5 : decode b_Model_ones 5 = .ok (.ifCond .eq 16, 3) := by decide +kernel
theorem d_Model_ones_8 : decode b_Model_ones 8 = .ok (.iload_n 2, 1) := by decide +kernel
theorem d_Model_ones_9 : decode b_Model_ones 9 = .ok (.iconst 1, 1) := by decide +kernel
theorem d_Model_ones_10 : decode b_Model_ones 10 = .ok (.iadd, 1) := by decide +kernel
theorem d_Model_ones_11 : decode b_Model_ones 11 = .ok (.istore_n 2, 1) := by decide +kernel
theorem d_Model_ones_12 : decode b_Model_ones 12 = .ok (.iload_n 3, 1) := by decide +kernel
theorem d_Model_ones_13 : decode b_Model_ones 13 = .ok (.iload_n 3, 1) := by decide +kernel
theorem d_Model_ones_14 : decode b_Model_ones 14 = .ok (.iconst 1, 1) := by decide +kernel
theorem d_Model_ones_15 : decode b_Model_ones 15 = .ok (.isub, 1) := by decide +kernel
theorem d_Model_ones_16 : decode b_Model_ones 16 = .ok (.iand, 1) := by decide +kernel
theorem d_Model_ones_17 : decode b_Model_ones 17 = .ok (.istore_n 3, 1) := by decide +kernel
theorem d_Model_ones_18 : decode b_Model_ones 18 = .ok (.goto (-14), 3) := by decide +kernel
theorem d_Model_ones_21 : decode b_Model_ones 21 = .ok (.iload_n 2, 1) := by decide +kernel
theorem d_Model_ones_22 : decode b_Model_ones 22 = .ok (.ireturn, 1) := by decide +kernel
theorem d_Model_lacking_0 : decode b_Model_lacking 0 = .ok (.iconst 0, 1) := by decide +kernel
theorem d_Model_lacking_1 : decode b_Model_lacking 1 = .ok (.istore_n 2, 1) := by decide +kernel
theorem d_Model_lacking_2 : decode b_Model_lacking 2 = .ok (.iconst 1, 1) := by decide +kernel
theorem d_Model_lacking_3 : decode b_Model_lacking 3 = .ok (.istore_n 3, 1) := by decide +kernel
theorem d_Model_lacking_4 : decode b_Model_lacking 4 = .ok (.iload_n 3, 1) := by decide +kernel
theorem d_Model_lacking_5 : decode b_Model_lacking 5 = .ok (.iconst 1, 1) := by decide +kernel
theorem d_Model_lacking_6 : decode b_Model_lacking 6 = .ok (.aload_n 0, 1) := by decide +kernel
theorem d_Model_lacking_7 : decode b_Model_lacking 7 = .ok (.getfield 39, 3) := by decide +kernel
theorem d_Model_lacking_10 : decode b_Model_lacking 10 = .ok (.iload_n 1, 1) := by decide +kernel
theorem d_Model_lacking_11 : decode b_Model_lacking 11 = .ok (.iaload, 1) := by decide +kernel
theorem d_Model_lacking_12 : decode b_Model_lacking 12 = .ok (.ishl, 1) := by decide +kernel
theorem d_Model_lacking_13 : decode b_Model_lacking 13 = .ok (.if_icmp .ge 154, 3) := by decide +kernel
theorem d_Model_lacking_16 : decode b_Model_lacking 16 = .ok (.iload_n 3, 1) := by decide +kernel
theorem d_Model_lacking_17 : decode b_Model_lacking 17 = .ok (.aload_n 0, 1) := by decide +kernel
theorem d_Model_lacking_18 : decode b_Model_lacking 18 = .ok (.getfield 42, 3) := by decide +kernel
theorem d_Model_lacking_21 : decode b_Model_lacking 21 = .ok (.iload_n 1, 1) := by decide +kernel
theorem d_Model_lacking_22 : decode b_Model_lacking 22 = .ok (.iaload, 1) := by decide +kernel
theorem d_Model_lacking_23 : decode b_Model_lacking 23 = .ok (.iconst (-1), 1) := by decide +kernel
theorem d_Model_lacking_24 : decode b_Model_lacking 24 = .ok (.ixor, 1) := by decide +kernel
theorem d_Model_lacking_25 : decode b_Model_lacking 25 = .ok (.iand, 1) := by decide +kernel
theorem d_Model_lacking_26 : decode b_Model_lacking 26 = .ok (.ifCond .eq 6, 3) := by decide +kernel
theorem d_Model_lacking_29 : decode b_Model_lacking 29 = .ok (.goto 132, 3) := by decide +kernel
theorem d_Model_lacking_32 : decode b_Model_lacking 32 = .ok (.iconst 0, 1) := by decide +kernel
theorem d_Model_lacking_33 : decode b_Model_lacking 33 = .ok (.istore 4, 2) := by decide +kernel
theorem d_Model_lacking_35 : decode b_Model_lacking 35 = .ok (.iconst 0, 1) := by decide +kernel
theorem d_Model_lacking_36 : decode b_Model_lacking 36 = .ok (.istore 5, 2) := by decide +kernel
theorem d_Model_lacking_38 : decode b_Model_lacking 38 = .ok (.iload 5, 2) := by decide +kernel
theorem d_Model_lacking_40 : decode b_Model_lacking 40 = .ok (.aload_n 0, 1) := by decide +kernel
theorem d_Model_lacking_41 : decode b_Model_lacking 41 = .ok (.getfield 107, 3) := by decide +kernel
theorem d_Model_lacking_44 : decode b_Model_lacking 44 = .ok (.if_icmp .ge 88, 3) := by decide +kernel
theorem d_Model_lacking_47 : decode b_Model_lacking 47 = .ok (.iconst 0, 1) := by decide +kernel
theorem d_Model_lacking_48 : decode b_Model_lacking 48 = .ok (.istore 6, 2) := by decide +kernel
theorem d_Model_lacking_50 : decode b_Model_lacking 50 = .ok (.iconst 0, 1) := by decide +kernel
theorem d_Model_lacking_51 : decode b_Model_lacking 51 = .ok (.istore 7, 2) := by decide +kernel
theorem d_Model_lacking_53 : decode b_Model_lacking 53 = .ok (.iload 7, 2) := by decide +kernel
theorem d_Model_lacking_55 : decode b_Model_lacking 55 = .ok (.aload_n 0, 1) := by decide +kernel
theorem d_Model_lacking_56 : decode b_Model_lacking 56 = .ok (.getfield 39, 3) := by decide +kernel
theorem d_Model_lacking_59 : decode b_Model_lacking 59 = .ok (.iload_n 1, 1) := by decide +kernel
theorem d_Model_lacking_60 : decode b_Model_lacking 60 = .ok (.iaload, 1) := by decide +kernel
theorem d_Model_lacking_61 : decode b_Model_lacking 61 = .ok (.if_icmp .ge 54, 3) := by decide +kernel
theorem d_Model_lacking_64 : decode b_Model_lacking 64 = .ok (.iload 6, 2) := by decide +kernel
theorem d_Model_lacking_66 : decode b_Model_lacking 66 = .ok (.ifCond .ne 49, 3) := by decide +kernel
theorem d_Model_lacking_69 : decode b_Model_lacking 69 = .ok (.iload_n 3, 1) := by decide +kernel
theorem d_Model_lacking_70 : decode b_Model_lacking 70 = .ok (.iload 7, 2) := by decide +kernel
theorem d_Model_lacking_72 : decode b_Model_lacking 72 = .ok (.ishr, 1) := by decide +kernel
theorem d_Model_lacking_73 : decode b_Model_lacking 73 = .ok (.iconst 1, 1) := by decide +kernel
theorem d_Model_lacking_74 : decode b_Model_lacking 74 = .ok (.iand, 1) := by decide +kernel
theorem d_Model_lacking_75 : decode b_Model_lacking 75 = .ok (.iconst 1, 1) := by decide +kernel
theorem d_Model_lacking_76 : decode b_Model_lacking 76 = .ok (.if_icmp .ne 30, 3) := by decide +kernel
theorem d_Model_lacking_79 : decode b_Model_lacking 79 = .ok (.aload_n 0, 1) := by decide +kernel
theorem d_Model_lacking_80 : decode b_Model_lacking 80 = .ok (.getfield 19, 3) := by decide +kernel
theorem d_Model_lacking_83 : decode b_Model_lacking 83 = .ok (.iload 5, 2) := by decide +kernel
theorem d_Model_lacking_85 : decode b_Model_lacking 85 = .ok (.baload, 1) := by decide +kernel
theorem d_Model_lacking_86 : decode b_Model_lacking 86 = .ok (.ifCond .eq 20, 3) := by decide +kernel
theorem d_Model_lacking_89 : decode b_Model_lacking 89 = .ok (.aload_n 0, 1) := by decide +kernel
theorem d_Model_lacking_90 : decode b_Model_lacking 90 = .ok (.iload_n 1, 1) := by decide +kernel
theorem d_Model_lacking_91 : decode b_Model_lacking 91 = .ok (.iload 7, 2) := by decide +kernel
theorem d_Model_lacking_93 : decode b_Model_lacking 93 = .ok (.iload 5, 2) := by decide +kernel
theorem d_Model_lacking_95 : decode b_Model_lacking 95 = .ok (.invokevirtual 123, 3) := by decide +kernel
theorem d_Model_lacking_98 : decode b_Model_lacking 98 = .ok (.iconst (-1), 1) := by decide +kernel
theorem d_Model_lacking_99 : decode b_Model_lacking 99 = .ok (.if_icmp .eq 7, 3) := by decide +kernel
theorem d_Model_lacking_102 : decode b_Model_lacking 102 = .ok (.iconst 1, 1) := by decide +kernel
theorem d_Model_lacking_103 : decode b_Model_lacking 103 = .ok (.goto 4, 3) := by decide +kernel
theorem d_Model_lacking_106 : decode b_Model_lacking 106 = .ok (.iconst 0, 1) := by decide +kernel
theorem d_Model_lacking_107 : decode b_Model_lacking 107 = .ok (.istore 6, 2) := by decide +kernel
theorem d_Model_lacking_109 : decode b_Model_lacking 109 = .ok (.iinc 7 1, 3) := by decide +kernel
theorem d_Model_lacking_112 : decode b_Model_lacking 112 = .ok (.goto (-59), 3) := by decide +kernel
theorem d_Model_lacking_115 : decode b_Model_lacking 115 = .ok (.iload 6, 2) := by decide +kernel
theorem d_Model_lacking_117 : decode b_Model_lacking 117 = .ok (.ifCond .eq 9, 3) := by decide +kernel
theorem d_Model_lacking_120 : decode b_Model_lacking 120 = .ok (.iload 4, 2) := by decide +kernel
theorem d_Model_lacking_122 : decode b_Model_lacking 122 = .ok (.iconst 1, 1) := by decide +kernel
theorem d_Model_lacking_123 : decode b_Model_lacking 123 = .ok (.iadd, 1) := by decide +kernel
theorem d_Model_lacking_124 : decode b_Model_lacking 124 = .ok (.istore 4, 2) := by decide +kernel
theorem d_Model_lacking_126 : decode b_Model_lacking 126 = .ok (.iinc 5 1, 3) := by decide +kernel
theorem d_Model_lacking_129 : decode b_Model_lacking 129 = .ok (.goto (-91), 3) := by decide +kernel
theorem d_Model_lacking_132 : decode b_Model_lacking 132 = .ok (.iload 4, 2) := by decide +kernel
theorem d_Model_lacking_134 : decode b_Model_lacking 134 = .ok (.aload_n 0, 1) := by decide +kernel
theorem d_Model_lacking_135 : decode b_Model_lacking 135 = .ok (.iload_n 3, 1) := by decide +kernel
theorem d_Model_lacking_136 : decode b_Model_lacking 136 = .ok (.invokevirtual 127, 3) := by decide +kernel
theorem d_Model_lacking_139 : decode b_Model_lacking 139 = .ok (.if_icmp .ge 22, 3) := by decide +kernel
theorem d_Model_lacking_142 : decode b_Model_lacking 142 = .ok (.iload_n 2, 1) := by decide +kernel
theorem d_Model_lacking_143 : decode b_Model_lacking 143 = .ok (.ifCond .eq 16, 3) := by decide +kernel
theorem d_Model_lacking_146 : decode b_Model_lacking 146 = .ok (.aload_n 0, 1) := by decide +kernel
theorem d_Model_lacking_147 : decode b_Model_lacking 147 = .ok (.iload_n 3, 1) := by decide +kernel
theorem d_Model_lacking_148 : decode b_Model_lacking 148 = .ok (.invokevirtual 127, 3) := by decide +kernel
theorem d_Model_lacking_151 : decode b_Model_lacking 151 = .ok (.aload_n 0, 1) := by decide +kernel
theorem d_Model_lacking_152 : decode b_Model_lacking 152 = .ok (.iload_n 2, 1) := by decide +kernel
theorem d_Model_lacking_153 : decode b_Model_lacking 153 = .ok (.invokevirtual 127, 3) := by decide +kernel
theorem d_Model_lacking_156 : decode b_Model_lacking 156 = .ok (.if_icmp .ge 5, 3) := by decide +kernel
theorem d_Model_lacking_159 : decode b_Model_lacking 159 = .ok (.iload_n 3, 1) := by decide +kernel
theorem d_Model_lacking_160 : decode b_Model_lacking 160 = .ok (.istore_n 2, 1) := by decide +kernel
theorem d_Model_lacking_161 : decode b_Model_lacking 161 = .ok (.iinc 3 1, 3) := by decide +kernel
theorem d_Model_lacking_164 : decode b_Model_lacking 164 = .ok (.goto (-160), 3) := by decide +kernel
theorem d_Model_lacking_167 : decode b_Model_lacking 167 = .ok (.iload_n 2, 1) := by decide +kernel
theorem d_Model_lacking_168 : decode b_Model_lacking 168 = .ok (.ireturn, 1) := by decide +kernel
theorem d_Model_playable_0 : decode b_Model_playable 0 = .ok (.aload_n 0, 1) := by decide +kernel
theorem d_Model_playable_1 : decode b_Model_playable 1 = .ok (.iconst 0, 1) := by decide +kernel
theorem d_Model_playable_2 : decode b_Model_playable 2 = .ok (.putfield 104, 3) := by decide +kernel
theorem d_Model_playable_5 : decode b_Model_playable 5 = .ok (.aload_n 0, 1) := by decide +kernel
theorem d_Model_playable_6 : decode b_Model_playable 6 = .ok (.iload_n 1, 1) := by decide +kernel
theorem d_Model_playable_7 : decode b_Model_playable 7 = .ok (.invokevirtual 120, 3) := by decide +kernel
theorem d_Model_playable_10 : decode b_Model_playable 10 = .ok (.ifCond .ne 7, 3) := by decide +kernel
theorem d_Model_playable_13 : decode b_Model_playable 13 = .ok (.iconst (-1), 1) := by decide +kernel
theorem d_Model_playable_14 : decode b_Model_playable 14 = .ok (.goto 16, 3) := by decide +kernel
theorem d_Model_playable_17 : decode b_Model_playable 17 = .ok (.aload_n 0, 1) := by decide +kernel
theorem d_Model_playable_18 : decode b_Model_playable 18 = .ok (.iload_n 1, 1) := by decide +kernel
theorem d_Model_playable_19 : decode b_Model_playable 19 = .ok (.invokevirtual 131, 3) := by decide +kernel
theorem d_Model_playable_22 : decode b_Model_playable 22 = .ok (.ifCond .ne 7, 3) := by decide +kernel
theorem d_Model_playable_25 : decode b_Model_playable 25 = .ok (.iconst 1, 1) := by decide +kernel
theorem d_Model_playable_26 : decode b_Model_playable 26 = .ok (.goto 4, 3) := by decide +kernel
theorem d_Model_playable_29 : decode b_Model_playable 29 = .ok (.iconst 0, 1) := by decide +kernel
theorem d_Model_playable_30 : decode b_Model_playable 30 = .ok (.ireturn, 1) := by decide +kernel
theorem d_Model_lacks_0 : decode b_Model_lacks 0 = .ok (.aload_n 0, 1) := by decide +kernel
theorem d_Model_lacks_1 : decode b_Model_lacks 1 = .ok (.iconst 0, 1) := by decide +kernel
theorem d_Model_lacks_2 : decode b_Model_lacks 2 = .ok (.putfield 104, 3) := by decide +kernel
theorem d_Model_lacks_5 : decode b_Model_lacks 5 = .ok (.aload_n 0, 1) := by decide +kernel
theorem d_Model_lacks_6 : decode b_Model_lacks 6 = .ok (.iload_n 1, 1) := by decide +kernel
theorem d_Model_lacks_7 : decode b_Model_lacks 7 = .ok (.invokevirtual 120, 3) := by decide +kernel
theorem d_Model_lacks_10 : decode b_Model_lacks 10 = .ok (.ifCond .eq 11, 3) := by decide +kernel
theorem d_Model_lacks_13 : decode b_Model_lacks 13 = .ok (.aload_n 0, 1) := by decide +kernel
theorem d_Model_lacks_14 : decode b_Model_lacks 14 = .ok (.iload_n 1, 1) := by decide +kernel
theorem d_Model_lacks_15 : decode b_Model_lacks 15 = .ok (.invokevirtual 131, 3) := by decide +kernel
theorem d_Model_lacks_18 : decode b_Model_lacks 18 = .ok (.goto 4, 3) := by decide +kernel
theorem d_Model_lacks_21 : decode b_Model_lacks 21 = .ok (.iconst (-1), 1) := by decide +kernel
theorem d_Model_lacks_22 : decode b_Model_lacks 22 = .ok (.ireturn, 1) := by decide +kernel
theorem d_Model_counts_0 : decode b_Model_counts 0 = .ok (.iload 4, 2) := by decide +kernel
theorem d_Model_counts_2 : decode b_Model_counts 2 = .ok (.ifCond .eq 36, 3) := by decide +kernel
theorem d_Model_counts_5 : decode b_Model_counts 5 = .ok (.aload_n 0, 1) := by decide +kernel
theorem d_Model_counts_6 : decode b_Model_counts 6 = .ok (.getfield 51, 3) := by decide +kernel
theorem d_Model_counts_9 : decode b_Model_counts 9 = .ok (.bipush 10, 2) := by decide +kernel
theorem d_Model_counts_11 : decode b_Model_counts 11 = .ok (.iload_n 1, 1) := by decide +kernel
theorem d_Model_counts_12 : decode b_Model_counts 12 = .ok (.imul, 1) := by decide +kernel
theorem d_Model_counts_13 : decode b_Model_counts 13 = .ok (.iload_n 2, 1) := by decide +kernel
theorem d_Model_counts_14 : decode b_Model_counts 14 = .ok (.iadd, 1) := by decide +kernel
theorem d_Model_counts_15 : decode b_Model_counts 15 = .ok (.iaload, 1) := by decide +kernel
theorem d_Model_counts_16 : decode b_Model_counts 16 = .ok (.iload_n 3, 1) := by decide +kernel
theorem d_Model_counts_17 : decode b_Model_counts 17 = .ok (.bipush 14, 2) := by decide +kernel
theorem d_Model_counts_19 : decode b_Model_counts 19 = .ok (.if_icmp .ne 7, 3) := by decide +kernel
theorem d_Model_counts_22 : decode b_Model_counts 22 = .ok (.iconst 0, 1) := by decide +kernel
theorem d_Model_counts_23 : decode b_Model_counts 23 = .ok (.goto 6, 3) := by decide +kernel
theorem d_Model_counts_26 : decode b_Model_counts 26 = .ok (.iload_n 3, 1) := by decide +kernel
theorem d_Model_counts_27 : decode b_Model_counts 27 = .ok (.iconst 1, 1) := by decide +kernel
theorem d_Model_counts_28 : decode b_Model_counts 28 = .ok (.iadd, 1) := by decide +kernel
theorem d_Model_counts_29 : decode b_Model_counts 29 = .ok (.if_icmp .ne 7, 3) := by decide +kernel
theorem d_Model_counts_32 : decode b_Model_counts 32 = .ok (.iconst 0, 1) := by decide +kernel
theorem d_Model_counts_33 : decode b_Model_counts 33 = .ok (.goto 4, 3) := by decide +kernel
theorem d_Model_counts_36 : decode b_Model_counts 36 = .ok (.iconst 1, 1) := by decide +kernel
theorem d_Model_counts_37 : decode b_Model_counts 37 = .ok (.ireturn, 1) := by decide +kernel
theorem d_Model_counts_38 : decode b_Model_counts 38 = .ok (.iload_n 3, 1) := by decide +kernel
theorem d_Model_counts_39 : decode b_Model_counts 39 = .ok (.bipush 14, 2) := by decide +kernel
theorem d_Model_counts_41 : decode b_Model_counts 41 = .ok (.if_icmp .ne 9, 3) := by decide +kernel
theorem d_Model_counts_44 : decode b_Model_counts 44 = .ok (.sipush 1000, 3) := by decide +kernel
theorem d_Model_counts_47 : decode b_Model_counts 47 = .ok (.goto 10, 3) := by decide +kernel
theorem d_Model_counts_50 : decode b_Model_counts 50 = .ok (.aload_n 0, 1) := by decide +kernel
theorem d_Model_counts_51 : decode b_Model_counts 51 = .ok (.iload_n 1, 1) := by decide +kernel
theorem d_Model_counts_52 : decode b_Model_counts 52 = .ok (.iload_n 2, 1) := by decide +kernel
theorem d_Model_counts_53 : decode b_Model_counts 53 = .ok (.iload_n 3, 1) := by decide +kernel
theorem d_Model_counts_54 : decode b_Model_counts 54 = .ok (.invokevirtual 123, 3) := by decide +kernel
theorem d_Model_counts_57 : decode b_Model_counts 57 = .ok (.ireturn, 1) := by decide +kernel
theorem d_Model_mayBe_0 : decode b_Model_mayBe 0 = .ok (.iload_n 3, 1) := by decide +kernel
theorem d_Model_mayBe_1 : decode b_Model_mayBe 1 = .ok (.bipush 14, 2) := by decide +kernel
theorem d_Model_mayBe_3 : decode b_Model_mayBe 3 = .ok (.if_icmp .ne 18, 3) := by decide +kernel
theorem d_Model_mayBe_6 : decode b_Model_mayBe 6 = .ok (.aload_n 0, 1) := by decide +kernel
theorem d_Model_mayBe_7 : decode b_Model_mayBe 7 = .ok (.iload_n 1, 1) := by decide +kernel
theorem d_Model_mayBe_8 : decode b_Model_mayBe 8 = .ok (.iload_n 2, 1) := by decide +kernel
theorem d_Model_mayBe_9 : decode b_Model_mayBe 9 = .ok (.invokevirtual 134, 3) := by decide +kernel
theorem d_Model_mayBe_12 : decode b_Model_mayBe 12 = .ok (.ifCond .ne 7, 3) := by decide +kernel
theorem d_Model_mayBe_15 : decode b_Model_mayBe 15 = .ok (.iconst 1, 1) := by decide +kernel
theorem d_Model_mayBe_16 : decode b_Model_mayBe 16 = .ok (.goto 4, 3) := by decide +kernel
theorem d_Model_mayBe_19 : decode b_Model_mayBe 19 = .ok (.iconst 0, 1) := by decide +kernel
theorem d_Model_mayBe_20 : decode b_Model_mayBe 20 = .ok (.ireturn, 1) := by decide +kernel
theorem d_Model_mayBe_21 : decode b_Model_mayBe 21 = .ok (.iload_n 3, 1) := by decide +kernel
theorem d_Model_mayBe_22 : decode b_Model_mayBe 22 = .ok (.aload_n 0, 1) := by decide +kernel
theorem d_Model_mayBe_23 : decode b_Model_mayBe 23 = .ok (.getfield 107, 3) := by decide +kernel
theorem d_Model_mayBe_26 : decode b_Model_mayBe 26 = .ok (.if_icmp .ge 27, 3) := by decide +kernel
theorem d_Model_mayBe_29 : decode b_Model_mayBe 29 = .ok (.aload_n 0, 1) := by decide +kernel
theorem d_Model_mayBe_30 : decode b_Model_mayBe 30 = .ok (.getfield 19, 3) := by decide +kernel
theorem d_Model_mayBe_33 : decode b_Model_mayBe 33 = .ok (.iload_n 3, 1) := by decide +kernel
theorem d_Model_mayBe_34 : decode b_Model_mayBe 34 = .ok (.baload, 1) := by decide +kernel
theorem d_Model_mayBe_35 : decode b_Model_mayBe 35 = .ok (.ifCond .eq 18, 3) := by decide +kernel
theorem d_Model_mayBe_38 : decode b_Model_mayBe 38 = .ok (.aload_n 0, 1) := by decide +kernel
theorem d_Model_mayBe_39 : decode b_Model_mayBe 39 = .ok (.iload_n 1, 1) := by decide +kernel
theorem d_Model_mayBe_40 : decode b_Model_mayBe 40 = .ok (.iload_n 2, 1) := by decide +kernel
theorem d_Model_mayBe_41 : decode b_Model_mayBe 41 = .ok (.iload_n 3, 1) := by decide +kernel
theorem d_Model_mayBe_42 : decode b_Model_mayBe 42 = .ok (.invokevirtual 123, 3) := by decide +kernel
theorem d_Model_mayBe_45 : decode b_Model_mayBe 45 = .ok (.iconst (-1), 1) := by decide +kernel
theorem d_Model_mayBe_46 : decode b_Model_mayBe 46 = .ok (.if_icmp .eq 7, 3) := by decide +kernel
theorem d_Model_mayBe_49 : decode b_Model_mayBe 49 = .ok (.iconst 1, 1) := by decide +kernel
theorem d_Model_mayBe_50 : decode b_Model_mayBe 50 = .ok (.goto 4, 3) := by decide +kernel
theorem d_Model_mayBe_53 : decode b_Model_mayBe 53 = .ok (.iconst 0, 1) := by decide +kernel
theorem d_Model_mayBe_54 : decode b_Model_mayBe 54 = .ok (.ireturn, 1) := by decide +kernel
theorem d_Model_finds_0 : decode b_Model_finds 0 = .ok (.aload_n 0, 1) := by decide +kernel
theorem d_Model_finds_1 : decode b_Model_finds 1 = .ok (.getfield 39, 3) := by decide +kernel
theorem d_Model_finds_4 : decode b_Model_finds 4 = .ok (.iload_n 1, 1) := by decide +kernel
theorem d_Model_finds_5 : decode b_Model_finds 5 = .ok (.iaload, 1) := by decide +kernel
theorem d_Model_finds_6 : decode b_Model_finds 6 = .ok (.istore_n 3, 1) := by decide +kernel
theorem d_Model_finds_7 : decode b_Model_finds 7 = .ok (.iconst 1, 1) := by decide +kernel
theorem d_Model_finds_8 : decode b_Model_finds 8 = .ok (.aload_n 0, 1) := by decide +kernel
theorem d_Model_finds_9 : decode b_Model_finds 9 = .ok (.getfield 107, 3) := by decide +kernel
theorem d_Model_finds_12 : decode b_Model_finds 12 = .ok (.ishl, 1) := by decide +kernel
theorem d_Model_finds_13 : decode b_Model_finds 13 = .ok (.istore 4, 2) := by decide +kernel
theorem d_Model_finds_15 : decode b_Model_finds 15 = .ok (.iconst 0, 1) := by decide +kernel
theorem d_Model_finds_16 : decode b_Model_finds 16 = .ok (.istore 5, 2) := by decide +kernel
theorem d_Model_finds_18 : decode b_Model_finds 18 = .ok (.iload 5, 2) := by decide +kernel
theorem d_Model_finds_20 : decode b_Model_finds 20 = .ok (.iload 4, 2) := by decide +kernel
theorem d_Model_finds_22 : decode b_Model_finds 22 = .ok (.if_icmp .ge 23, 3) := by decide +kernel
theorem d_Model_finds_25 : decode b_Model_finds 25 = .ok (.aload_n 0, 1) := by decide +kernel
theorem d_Model_finds_26 : decode b_Model_finds 26 = .ok (.getfield 55, 3) := by decide +kernel
theorem d_Model_finds_29 : decode b_Model_finds 29 = .ok (.sipush 16384, 3) := by decide +kernel
theorem d_Model_finds_32 : decode b_Model_finds 32 = .ok (.iload_n 3, 1) := by decide +kernel
theorem d_Model_finds_33 : decode b_Model_finds 33 = .ok (.imul, 1) := by decide +kernel
theorem d_Model_finds_34 : decode b_Model_finds 34 = .ok (.iload 5, 2) := by decide +kernel
theorem d_Model_finds_36 : decode b_Model_finds 36 = .ok (.iadd, 1) := by decide +kernel
theorem d_Model_finds_37 : decode b_Model_finds 37 = .ok (.iconst 0, 1) := by decide +kernel
theorem d_Model_finds_38 : decode b_Model_finds 38 = .ok (.iastore, 1) := by decide +kernel
theorem d_Model_finds_39 : decode b_Model_finds 39 = .ok (.iinc 5 1, 3) := by decide +kernel
theorem d_Model_finds_42 : decode b_Model_finds 42 = .ok (.goto (-24), 3) := by decide +kernel
theorem d_Model_finds_45 : decode b_Model_finds 45 = .ok (.iload_n 3, 1) := by decide +kernel
theorem d_Model_finds_46 : decode b_Model_finds 46 = .ok (.iconst 1, 1) := by decide +kernel
theorem d_Model_finds_47 : decode b_Model_finds 47 = .ok (.isub, 1) := by decide +kernel
theorem d_Model_finds_48 : decode b_Model_finds 48 = .ok (.istore 5, 2) := by decide +kernel
theorem d_Model_finds_50 : decode b_Model_finds 50 = .ok (.iload 5, 2) := by decide +kernel
theorem d_Model_finds_52 : decode b_Model_finds 52 = .ok (.ifCond .lt 169, 3) := by decide +kernel
theorem d_Model_finds_55 : decode b_Model_finds 55 = .ok (.iconst 0, 1) := by decide +kernel
theorem d_Model_finds_56 : decode b_Model_finds 56 = .ok (.istore 6, 2) := by decide +kernel
theorem d_Model_finds_58 : decode b_Model_finds 58 = .ok (.iload 6, 2) := by decide +kernel
theorem d_Model_finds_60 : decode b_Model_finds 60 = .ok (.iload 4, 2) := by decide +kernel
theorem d_Model_finds_62 : decode b_Model_finds 62 = .ok (.if_icmp .ge 153, 3) := by decide +kernel
theorem d_Model_finds_65 : decode b_Model_finds 65 = .ok (.ldc 138, 2) := by decide +kernel
theorem d_Model_finds_67 : decode b_Model_finds 67 = .ok (.istore 7, 2) := by decide +kernel
theorem d_Model_finds_69 : decode b_Model_finds 69 = .ok (.iconst 0, 1) := by decide +kernel
theorem d_Model_finds_70 : decode b_Model_finds 70 = .ok (.istore 8, 2) := by decide +kernel
theorem d_Model_finds_72 : decode b_Model_finds 72 = .ok (.iload 8, 2) := by decide +kernel
theorem d_Model_finds_74 : decode b_Model_finds 74 = .ok (.bipush 15, 2) := by decide +kernel
theorem d_Model_finds_76 : decode b_Model_finds 76 = .ok (.if_icmp .ge 117, 3) := by decide +kernel
theorem d_Model_finds_79 : decode b_Model_finds 79 = .ok (.aload_n 0, 1) := by decide +kernel
theorem d_Model_finds_80 : decode b_Model_finds 80 = .ok (.iload_n 1, 1) := by decide +kernel
theorem d_Model_finds_81 : decode b_Model_finds 81 = .ok (.iload 5, 2) := by decide +kernel
theorem d_Model_finds_83 : decode b_Model_finds 83 = .ok (.iload 8, 2) := by decide +kernel
theorem d_Model_finds_85 : decode b_Model_finds 85 = .ok (.invokevirtual 139, 3) := by decide +kernel
theorem d_Model_finds_88 : decode b_Model_finds 88 = .ok (.ifCond .eq 99, 3) := by decide +kernel
theorem d_Model_finds_91 : decode b_Model_finds 91 = .ok (.iload 8, 2) := by decide +kernel
theorem d_Model_finds_93 : decode b_Model_finds 93 = .ok (.bipush 14, 2) := by decide +kernel
theorem d_Model_finds_95 : decode b_Model_finds 95 = .ok (.if_icmp .ge 17, 3) := by decide +kernel
theorem d_Model_finds_98 : decode b_Model_finds 98 = .ok (.iload 6, 2) := by decide +kernel
theorem d_Model_finds_100 : decode b_Model_finds 100 = .ok (.iload 8, 2) := by decide +kernel
theorem d_Model_finds_102 : decode b_Model_finds 102 = .ok (.ishr, 1) := by decide +kernel
theorem d_Model_finds_103 : decode b_Model_finds 103 = .ok (.iconst 1, 1) := by decide +kernel
theorem d_Model_finds_104 : decode b_Model_finds 104 = .ok (.iand, 1) := by decide +kernel
theorem d_Model_finds_105 : decode b_Model_finds 105 = .ok (.iconst 1, 1) := by decide +kernel
theorem d_Model_finds_106 : decode b_Model_finds 106 = .ok (.if_icmp .ne 6, 3) := by decide +kernel
theorem d_Model_finds_109 : decode b_Model_finds 109 = .ok (.goto 78, 3) := by decide +kernel
theorem d_Model_finds_112 : decode b_Model_finds 112 = .ok (.aload_n 0, 1) := by decide +kernel
theorem d_Model_finds_113 : decode b_Model_finds 113 = .ok (.getfield 55, 3) := by decide +kernel
theorem d_Model_finds_116 : decode b_Model_finds 116 = .ok (.sipush 16384, 3) := by decide +kernel
theorem d_Model_finds_119 : decode b_Model_finds 119 = .ok (.iload 5, 2) := by decide +kernel
theorem d_Model_finds_121 : decode b_Model_finds 121 = .ok (.iconst 1, 1) := by decide +kernel
theorem d_Model_finds_122 : decode b_Model_finds 122 = .ok (.iadd, 1) := by decide +kernel
theorem d_Model_finds_123 : decode b_Model_finds 123 = .ok (.imul, 1) := by decide +kernel
theorem d_Model_finds_124 : decode b_Model_finds 124 = .ok (.iload 8, 2) := by decide +kernel
theorem d_Model_finds_126 : decode b_Model_finds 126 = .ok (.bipush 14, 2) := by decide +kernel
theorem d_Model_finds_128 : decode b_Model_finds 128 = .ok (.if_icmp .ge 13, 3) := by decide +kernel
theorem d_Model_finds_131 : decode b_Model_finds 131 = .ok (.iload 6, 2) := by decide +kernel
theorem d_Model_finds_133 : decode b_Model_finds 133 = .ok (.iconst 1, 1) := by decide +kernel
theorem d_Model_finds_134 : decode b_Model_finds 134 = .ok (.iload 8, 2) := by decide +kernel
theorem d_Model_finds_136 : decode b_Model_finds 136 = .ok (.ishl, 1) := by decide +kernel
theorem d_Model_finds_137 : decode b_Model_finds 137 = .ok (.ior, 1) := by decide +kernel
theorem d_Model_finds_138 : decode b_Model_finds 138 = .ok (.goto 5, 3) := by decide +kernel
theorem d_Model_finds_141 : decode b_Model_finds 141 = .ok (.iload 6, 2) := by decide +kernel
theorem d_Model_finds_143 : decode b_Model_finds 143 = .ok (.iadd, 1) := by decide +kernel
theorem d_Model_finds_144 : decode b_Model_finds 144 = .ok (.iaload, 1) := by decide +kernel
theorem d_Model_finds_145 : decode b_Model_finds 145 = .ok (.istore 9, 2) := by decide +kernel
theorem d_Model_finds_147 : decode b_Model_finds 147 = .ok (.iload 9, 2) := by decide +kernel
theorem d_Model_finds_149 : decode b_Model_finds 149 = .ok (.ldc 138, 2) := by decide +kernel
theorem d_Model_finds_151 : decode b_Model_finds 151 = .ok (.if_icmp .ge 36, 3) := by decide +kernel
theorem d_Model_finds_154 : decode b_Model_finds 154 = .ok (.iload 9, 2) := by decide +kernel
theorem d_Model_finds_156 : decode b_Model_finds 156 = .ok (.aload_n 0, 1) := by decide +kernel
theorem d_Model_finds_157 : decode b_Model_finds 157 = .ok (.iload_n 1, 1) := by decide +kernel
theorem d_Model_finds_158 : decode b_Model_finds 158 = .ok (.iload 5, 2) := by decide +kernel
theorem d_Model_finds_160 : decode b_Model_finds 160 = .ok (.iload 8, 2) := by decide +kernel
theorem d_Model_finds_162 : decode b_Model_finds 162 = .ok (.iload_n 2, 1) := by decide +kernel
theorem d_Model_finds_163 : decode b_Model_finds 163 = .ok (.invokevirtual 143, 3) := by decide +kernel
theorem d_Model_finds_166 : decode b_Model_finds 166 = .ok (.iadd, 1) := by decide +kernel
theorem d_Model_finds_167 : decode b_Model_finds 167 = .ok (.iload 7, 2) := by decide +kernel
theorem d_Model_finds_169 : decode b_Model_finds 169 = .ok (.if_icmp .ge 18, 3) := by decide +kernel
theorem d_Model_finds_172 : decode b_Model_finds 172 = .ok (.iload 9, 2) := by decide +kernel
theorem d_Model_finds_174 : decode b_Model_finds 174 = .ok (.aload_n 0, 1) := by decide +kernel
theorem d_Model_finds_175 : decode b_Model_finds 175 = .ok (.iload_n 1, 1) := by decide +kernel
