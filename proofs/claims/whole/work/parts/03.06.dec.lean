theorem d_Model_finds_176 : decode b_Model_finds 176 = .ok (.iload 5, 2) := by decide +kernel
theorem d_Model_finds_178 : decode b_Model_finds 178 = .ok (.iload 8, 2) := by decide +kernel
theorem d_Model_finds_180 : decode b_Model_finds 180 = .ok (.iload_n 2, 1) := by decide +kernel
theorem d_Model_finds_181 : decode b_Model_finds 181 = .ok (.invokevirtual 143, 3) := by decide +kernel
theorem d_Model_finds_184 : decode b_Model_finds 184 = .ok (.iadd, 1) := by decide +kernel
theorem d_Model_finds_185 : decode b_Model_finds 185 = .ok (.istore 7, 2) := by decide +kernel
theorem d_Model_finds_187 : decode b_Model_finds 187 = .ok (.iinc 8 1, 3) := by decide +kernel
theorem d_Model_finds_190 : decode b_Model_finds 190 = .ok (.goto (-118), 3) := by decide +kernel
theorem d_Model_finds_193 : decode b_Model_finds 193 = .ok (.aload_n 0, 1) := by decide +kernel
theorem d_Model_finds_194 : decode b_Model_finds 194 = .ok (.getfield 55, 3) := by decide +kernel
theorem d_Model_finds_197 : decode b_Model_finds 197 = .ok (.sipush 16384, 3) := by decide +kernel
theorem d_Model_finds_200 : decode b_Model_finds 200 = .ok (.iload 5, 2) := by decide +kernel
theorem d_Model_finds_202 : decode b_Model_finds 202 = .ok (.imul, 1) := by decide +kernel
theorem d_Model_finds_203 : decode b_Model_finds 203 = .ok (.iload 6, 2) := by decide +kernel
theorem d_Model_finds_205 : decode b_Model_finds 205 = .ok (.iadd, 1) := by decide +kernel
theorem d_Model_finds_206 : decode b_Model_finds 206 = .ok (.iload 7, 2) := by decide +kernel
theorem d_Model_finds_208 : decode b_Model_finds 208 = .ok (.iastore, 1) := by decide +kernel
theorem d_Model_finds_209 : decode b_Model_finds 209 = .ok (.iinc 6 1, 3) := by decide +kernel
theorem d_Model_finds_212 : decode b_Model_finds 212 = .ok (.goto (-154), 3) := by decide +kernel
theorem d_Model_finds_215 : decode b_Model_finds 215 = .ok (.iinc 5 (-1), 3) := by decide +kernel
theorem d_Model_finds_218 : decode b_Model_finds 218 = .ok (.goto (-168), 3) := by decide +kernel
theorem d_Model_finds_221 : decode b_Model_finds 221 = .ok (.return_, 1) := by decide +kernel
theorem d_Model_seats_0 : decode b_Model_seats 0 = .ok (.aload_n 0, 1) := by decide +kernel
theorem d_Model_seats_1 : decode b_Model_seats 1 = .ok (.iload_n 1, 1) := by decide +kernel
theorem d_Model_seats_2 : decode b_Model_seats 2 = .ok (.invokevirtual 120, 3) := by decide +kernel
theorem d_Model_seats_5 : decode b_Model_seats 5 = .ok (.ifCond .eq 11, 3) := by decide +kernel
theorem d_Model_seats_8 : decode b_Model_seats 8 = .ok (.aload_n 0, 1) := by decide +kernel
theorem d_Model_seats_9 : decode b_Model_seats 9 = .ok (.iload_n 1, 1) := by decide +kernel
theorem d_Model_seats_10 : decode b_Model_seats 10 = .ok (.invokevirtual 131, 3) := by decide +kernel
theorem d_Model_seats_13 : decode b_Model_seats 13 = .ok (.ifCond .eq 5, 3) := by decide +kernel
theorem d_Model_seats_16 : decode b_Model_seats 16 = .ok (.iconst (-1), 1) := by decide +kernel
theorem d_Model_seats_17 : decode b_Model_seats 17 = .ok (.ireturn, 1) := by decide +kernel
theorem d_Model_seats_18 : decode b_Model_seats 18 = .ok (.aload_n 0, 1) := by decide +kernel
theorem d_Model_seats_19 : decode b_Model_seats 19 = .ok (.iload_n 1, 1) := by decide +kernel
theorem d_Model_seats_20 : decode b_Model_seats 20 = .ok (.iload_n 2, 1) := by decide +kernel
theorem d_Model_seats_21 : decode b_Model_seats 21 = .ok (.invokevirtual 147, 3) := by decide +kernel
theorem d_Model_seats_24 : decode b_Model_seats 24 = .ok (.iconst 0, 1) := by decide +kernel
theorem d_Model_seats_25 : decode b_Model_seats 25 = .ok (.istore_n 3, 1) := by decide +kernel
theorem d_Model_seats_26 : decode b_Model_seats 26 = .ok (.iconst 0, 1) := by decide +kernel
theorem d_Model_seats_27 : decode b_Model_seats 27 = .ok (.istore 4, 2) := by decide +kernel
theorem d_Model_seats_29 : decode b_Model_seats 29 = .ok (.iconst 0, 1) := by decide +kernel
theorem d_Model_seats_30 : decode b_Model_seats 30 = .ok (.istore 5, 2) := by decide +kernel
theorem d_Model_seats_32 : decode b_Model_seats 32 = .ok (.iconst 0, 1) := by decide +kernel
theorem d_Model_seats_33 : decode b_Model_seats 33 = .ok (.istore 6, 2) := by decide +kernel
theorem d_Model_seats_35 : decode b_Model_seats 35 = .ok (.iload 6, 2) := by decide +kernel
theorem d_Model_seats_37 : decode b_Model_seats 37 = .ok (.aload_n 0, 1) := by decide +kernel
theorem d_Model_seats_38 : decode b_Model_seats 38 = .ok (.getfield 39, 3) := by decide +kernel
theorem d_Model_seats_41 : decode b_Model_seats 41 = .ok (.iload_n 1, 1) := by decide +kernel
theorem d_Model_seats_42 : decode b_Model_seats 42 = .ok (.iaload, 1) := by decide +kernel
theorem d_Model_seats_43 : decode b_Model_seats 43 = .ok (.if_icmp .ge 97, 3) := by decide +kernel
theorem d_Model_seats_46 : decode b_Model_seats 46 = .ok (.iconst 0, 1) := by decide +kernel
theorem d_Model_seats_47 : decode b_Model_seats 47 = .ok (.istore 7, 2) := by decide +kernel
theorem d_Model_seats_49 : decode b_Model_seats 49 = .ok (.aload_n 0, 1) := by decide +kernel
theorem d_Model_seats_50 : decode b_Model_seats 50 = .ok (.iload_n 1, 1) := by decide +kernel
theorem d_Model_seats_51 : decode b_Model_seats 51 = .ok (.iload 6, 2) := by decide +kernel
theorem d_Model_seats_53 : decode b_Model_seats 53 = .ok (.iload 7, 2) := by decide +kernel
theorem d_Model_seats_55 : decode b_Model_seats 55 = .ok (.iload_n 3, 1) := by decide +kernel
theorem d_Model_seats_56 : decode b_Model_seats 56 = .ok (.iload_n 2, 1) := by decide +kernel
theorem d_Model_seats_57 : decode b_Model_seats 57 = .ok (.invokevirtual 151, 3) := by decide +kernel
theorem d_Model_seats_60 : decode b_Model_seats 60 = .ok (.ifCond .ne 12, 3) := by decide +kernel
theorem d_Model_seats_63 : decode b_Model_seats 63 = .ok (.iload 7, 2) := by decide +kernel
theorem d_Model_seats_65 : decode b_Model_seats 65 = .ok (.iconst 1, 1) := by decide +kernel
theorem d_Model_seats_66 : decode b_Model_seats 66 = .ok (.iadd, 1) := by decide +kernel
theorem d_Model_seats_67 : decode b_Model_seats 67 = .ok (.istore 7, 2) := by decide +kernel
theorem d_Model_seats_69 : decode b_Model_seats 69 = .ok (.goto (-20), 3) := by decide +kernel
theorem d_Model_seats_72 : decode b_Model_seats 72 = .ok (.iload 5, 2) := by decide +kernel
theorem d_Model_seats_74 : decode b_Model_seats 74 = .ok (.aload_n 0, 1) := by decide +kernel
theorem d_Model_seats_75 : decode b_Model_seats 75 = .ok (.iload_n 1, 1) := by decide +kernel
theorem d_Model_seats_76 : decode b_Model_seats 76 = .ok (.iload 6, 2) := by decide +kernel
theorem d_Model_seats_78 : decode b_Model_seats 78 = .ok (.iload 7, 2) := by decide +kernel
theorem d_Model_seats_80 : decode b_Model_seats 80 = .ok (.iconst 1, 1) := by decide +kernel
theorem d_Model_seats_81 : decode b_Model_seats 81 = .ok (.invokevirtual 143, 3) := by decide +kernel
theorem d_Model_seats_84 : decode b_Model_seats 84 = .ok (.iadd, 1) := by decide +kernel
theorem d_Model_seats_85 : decode b_Model_seats 85 = .ok (.istore 5, 2) := by decide +kernel
theorem d_Model_seats_87 : decode b_Model_seats 87 = .ok (.aload_n 0, 1) := by decide +kernel
theorem d_Model_seats_88 : decode b_Model_seats 88 = .ok (.getfield 51, 3) := by decide +kernel
theorem d_Model_seats_91 : decode b_Model_seats 91 = .ok (.bipush 10, 2) := by decide +kernel
theorem d_Model_seats_93 : decode b_Model_seats 93 = .ok (.iload_n 1, 1) := by decide +kernel
theorem d_Model_seats_94 : decode b_Model_seats 94 = .ok (.imul, 1) := by decide +kernel
theorem d_Model_seats_95 : decode b_Model_seats 95 = .ok (.iload 6, 2) := by decide +kernel
theorem d_Model_seats_97 : decode b_Model_seats 97 = .ok (.iadd, 1) := by decide +kernel
theorem d_Model_seats_98 : decode b_Model_seats 98 = .ok (.iload 7, 2) := by decide +kernel
theorem d_Model_seats_100 : decode b_Model_seats 100 = .ok (.bipush 14, 2) := by decide +kernel
theorem d_Model_seats_102 : decode b_Model_seats 102 = .ok (.if_icmp .ne 7, 3) := by decide +kernel
theorem d_Model_seats_105 : decode b_Model_seats 105 = .ok (.iconst 0, 1) := by decide +kernel
theorem d_Model_seats_106 : decode b_Model_seats 106 = .ok (.goto 7, 3) := by decide +kernel
theorem d_Model_seats_109 : decode b_Model_seats 109 = .ok (.iload 7, 2) := by decide +kernel
theorem d_Model_seats_111 : decode b_Model_seats 111 = .ok (.iconst 1, 1) := by decide +kernel
theorem d_Model_seats_112 : decode b_Model_seats 112 = .ok (.iadd, 1) := by decide +kernel
theorem d_Model_seats_113 : decode b_Model_seats 113 = .ok (.iastore, 1) := by decide +kernel
theorem d_Model_seats_114 : decode b_Model_seats 114 = .ok (.iload 7, 2) := by decide +kernel
theorem d_Model_seats_116 : decode b_Model_seats 116 = .ok (.bipush 14, 2) := by decide +kernel
theorem d_Model_seats_118 : decode b_Model_seats 118 = .ok (.if_icmp .ge 16, 3) := by decide +kernel
theorem d_Model_seats_121 : decode b_Model_seats 121 = .ok (.iload_n 3, 1) := by decide +kernel
theorem d_Model_seats_122 : decode b_Model_seats 122 = .ok (.iconst 1, 1) := by decide +kernel
theorem d_Model_seats_123 : decode b_Model_seats 123 = .ok (.iload 7, 2) := by decide +kernel
theorem d_Model_seats_125 : decode b_Model_seats 125 = .ok (.ishl, 1) := by decide +kernel
theorem d_Model_seats_126 : decode b_Model_seats 126 = .ok (.ior, 1) := by decide +kernel
theorem d_Model_seats_127 : decode b_Model_seats 127 = .ok (.istore_n 3, 1) := by decide +kernel
theorem d_Model_seats_128 : decode b_Model_seats 128 = .ok (.iload 4, 2) := by decide +kernel
theorem d_Model_seats_130 : decode b_Model_seats 130 = .ok (.iconst 1, 1) := by decide +kernel
theorem d_Model_seats_131 : decode b_Model_seats 131 = .ok (.iadd, 1) := by decide +kernel
theorem d_Model_seats_132 : decode b_Model_seats 132 = .ok (.istore 4, 2) := by decide +kernel
theorem d_Model_seats_134 : decode b_Model_seats 134 = .ok (.iinc 6 1, 3) := by decide +kernel
theorem d_Model_seats_137 : decode b_Model_seats 137 = .ok (.goto (-102), 3) := by decide +kernel
theorem d_Model_seats_140 : decode b_Model_seats 140 = .ok (.iload_n 2, 1) := by decide +kernel
theorem d_Model_seats_141 : decode b_Model_seats 141 = .ok (.ifCond .eq 8, 3) := by decide +kernel
theorem d_Model_seats_144 : decode b_Model_seats 144 = .ok (.iload 5, 2) := by decide +kernel
theorem d_Model_seats_146 : decode b_Model_seats 146 = .ok (.goto 5, 3) := by decide +kernel
theorem d_Model_seats_149 : decode b_Model_seats 149 = .ok (.iload 4, 2) := by decide +kernel
theorem d_Model_seats_151 : decode b_Model_seats 151 = .ok (.ireturn, 1) := by decide +kernel
theorem d_Model_fits_0 : decode b_Model_fits 0 = .ok (.aload_n 0, 1) := by decide +kernel
theorem d_Model_fits_1 : decode b_Model_fits 1 = .ok (.iload_n 1, 1) := by decide +kernel
theorem d_Model_fits_2 : decode b_Model_fits 2 = .ok (.iload_n 2, 1) := by decide +kernel
theorem d_Model_fits_3 : decode b_Model_fits 3 = .ok (.iload_n 3, 1) := by decide +kernel
theorem d_Model_fits_4 : decode b_Model_fits 4 = .ok (.invokevirtual 139, 3) := by decide +kernel
theorem d_Model_fits_7 : decode b_Model_fits 7 = .ok (.ifCond .eq 19, 3) := by decide +kernel
theorem d_Model_fits_10 : decode b_Model_fits 10 = .ok (.iload_n 3, 1) := by decide +kernel
theorem d_Model_fits_11 : decode b_Model_fits 11 = .ok (.bipush 14, 2) := by decide +kernel
theorem d_Model_fits_13 : decode b_Model_fits 13 = .ok (.if_icmp .ge 15, 3) := by decide +kernel
theorem d_Model_fits_16 : decode b_Model_fits 16 = .ok (.iload 4, 2) := by decide +kernel
theorem d_Model_fits_18 : decode b_Model_fits 18 = .ok (.iload_n 3, 1) := by decide +kernel
theorem d_Model_fits_19 : decode b_Model_fits 19 = .ok (.ishr, 1) := by decide +kernel
theorem d_Model_fits_20 : decode b_Model_fits 20 = .ok (.iconst 1, 1) := by decide +kernel
theorem d_Model_fits_21 : decode b_Model_fits 21 = .ok (.iand, 1) := by decide +kernel
theorem d_Model_fits_22 : decode b_Model_fits 22 = .ok (.iconst 1, 1) := by decide +kernel
theorem d_Model_fits_23 : decode b_Model_fits 23 = .ok (.if_icmp .ne 5, 3) := by decide +kernel
theorem d_Model_fits_26 : decode b_Model_fits 26 = .ok (.iconst 0, 1) := by decide +kernel
theorem d_Model_fits_27 : decode b_Model_fits 27 = .ok (.ireturn, 1) := by decide +kernel
theorem d_Model_fits_28 : decode b_Model_fits 28 = .ok (.aload_n 0, 1) := by decide +kernel
theorem d_Model_fits_29 : decode b_Model_fits 29 = .ok (.getfield 55, 3) := by decide +kernel
theorem d_Model_fits_32 : decode b_Model_fits 32 = .ok (.sipush 16384, 3) := by decide +kernel
theorem d_Model_fits_35 : decode b_Model_fits 35 = .ok (.iload_n 2, 1) := by decide +kernel
theorem d_Model_fits_36 : decode b_Model_fits 36 = .ok (.iconst 1, 1) := by decide +kernel
theorem d_Model_fits_37 : decode b_Model_fits 37 = .ok (.iadd, 1) := by decide +kernel
theorem d_Model_fits_38 : decode b_Model_fits 38 = .ok (.imul, 1) := by decide +kernel
theorem d_Model_fits_39 : decode b_Model_fits 39 = .ok (.iload_n 3, 1) := by decide +kernel
theorem d_Model_fits_40 : decode b_Model_fits 40 = .ok (.bipush 14, 2) := by decide +kernel
theorem d_Model_fits_42 : decode b_Model_fits 42 = .ok (.if_icmp .ge 12, 3) := by decide +kernel
theorem d_Model_fits_45 : decode b_Model_fits 45 = .ok (.iload 4, 2) := by decide +kernel
theorem d_Model_fits_47 : decode b_Model_fits 47 = .ok (.iconst 1, 1) := by decide +kernel
theorem d_Model_fits_48 : decode b_Model_fits 48 = .ok (.iload_n 3, 1) := by decide +kernel
theorem d_Model_fits_49 : decode b_Model_fits 49 = .ok (.ishl, 1) := by decide +kernel
theorem d_Model_fits_50 : decode b_Model_fits 50 = .ok (.ior, 1) := by decide +kernel
theorem d_Model_fits_51 : decode b_Model_fits 51 = .ok (.goto 5, 3) := by decide +kernel
theorem d_Model_fits_54 : decode b_Model_fits 54 = .ok (.iload 4, 2) := by decide +kernel
theorem d_Model_fits_56 : decode b_Model_fits 56 = .ok (.iadd, 1) := by decide +kernel
theorem d_Model_fits_57 : decode b_Model_fits 57 = .ok (.iaload, 1) := by decide +kernel
theorem d_Model_fits_58 : decode b_Model_fits 58 = .ok (.istore 6, 2) := by decide +kernel
theorem d_Model_fits_60 : decode b_Model_fits 60 = .ok (.iload 6, 2) := by decide +kernel
theorem d_Model_fits_62 : decode b_Model_fits 62 = .ok (.ldc 138, 2) := by decide +kernel
theorem d_Model_fits_64 : decode b_Model_fits 64 = .ok (.if_icmp .ge 35, 3) := by decide +kernel
theorem d_Model_fits_67 : decode b_Model_fits 67 = .ok (.iload 6, 2) := by decide +kernel
theorem d_Model_fits_69 : decode b_Model_fits 69 = .ok (.aload_n 0, 1) := by decide +kernel
theorem d_Model_fits_70 : decode b_Model_fits 70 = .ok (.iload_n 1, 1) := by decide +kernel
theorem d_Model_fits_71 : decode b_Model_fits 71 = .ok (.iload_n 2, 1) := by decide +kernel
theorem d_Model_fits_72 : decode b_Model_fits 72 = .ok (.iload_n 3, 1) := by decide +kernel
theorem d_Model_fits_73 : decode b_Model_fits 73 = .ok (.iload 5, 2) := by decide +kernel
theorem d_Model_fits_75 : decode b_Model_fits 75 = .ok (.invokevirtual 143, 3) := by decide +kernel
theorem d_Model_fits_78 : decode b_Model_fits 78 = .ok (.iadd, 1) := by decide +kernel
theorem d_Model_fits_79 : decode b_Model_fits 79 = .ok (.aload_n 0, 1) := by decide +kernel
theorem d_Model_fits_80 : decode b_Model_fits 80 = .ok (.getfield 55, 3) := by decide +kernel
theorem d_Model_fits_83 : decode b_Model_fits 83 = .ok (.sipush 16384, 3) := by decide +kernel
theorem d_Model_fits_86 : decode b_Model_fits 86 = .ok (.iload_n 2, 1) := by decide +kernel
theorem d_Model_fits_87 : decode b_Model_fits 87 = .ok (.imul, 1) := by decide +kernel
theorem d_Model_fits_88 : decode b_Model_fits 88 = .ok (.iload 4, 2) := by decide +kernel
theorem d_Model_fits_90 : decode b_Model_fits 90 = .ok (.iadd, 1) := by decide +kernel
theorem d_Model_fits_91 : decode b_Model_fits 91 = .ok (.iaload, 1) := by decide +kernel
theorem d_Model_fits_92 : decode b_Model_fits 92 = .ok (.if_icmp .ne 7, 3) := by decide +kernel
theorem d_Model_fits_95 : decode b_Model_fits 95 = .ok (.iconst 1, 1) := by decide +kernel
theorem d_Model_fits_96 : decode b_Model_fits 96 = .ok (.goto 4, 3) := by decide +kernel
theorem d_Model_fits_99 : decode b_Model_fits 99 = .ok (.iconst 0, 1) := by decide +kernel
theorem d_Model_fits_100 : decode b_Model_fits 100 = .ok (.ireturn, 1) := by decide +kernel
theorem d_Model_seat_0 : decode b_Model_seat 0 = .ok (.aload_n 0, 1) := by decide +kernel
theorem d_Model_seat_1 : decode b_Model_seat 1 = .ok (.iconst 0, 1) := by decide +kernel
theorem d_Model_seat_2 : decode b_Model_seat 2 = .ok (.putfield 104, 3) := by decide +kernel
theorem d_Model_seat_5 : decode b_Model_seat 5 = .ok (.aload_n 0, 1) := by decide +kernel
theorem d_Model_seat_6 : decode b_Model_seat 6 = .ok (.iload_n 1, 1) := by decide +kernel
theorem d_Model_seat_7 : decode b_Model_seat 7 = .ok (.iconst 0, 1) := by decide +kernel
theorem d_Model_seat_8 : decode b_Model_seat 8 = .ok (.invokevirtual 155, 3) := by decide +kernel
theorem d_Model_seat_11 : decode b_Model_seat 11 = .ok (.ireturn, 1) := by decide +kernel
theorem d_Model_again_0 : decode b_Model_again 0 = .ok (.aload_n 0, 1) := by decide +kernel
theorem d_Model_again_1 : decode b_Model_again 1 = .ok (.iconst 0, 1) := by decide +kernel
theorem d_Model_again_2 : decode b_Model_again 2 = .ok (.putfield 104, 3) := by decide +kernel
theorem d_Model_again_5 : decode b_Model_again 5 = .ok (.aload_n 0, 1) := by decide +kernel
theorem d_Model_again_6 : decode b_Model_again 6 = .ok (.iload_n 1, 1) := by decide +kernel
theorem d_Model_again_7 : decode b_Model_again 7 = .ok (.iconst 1, 1) := by decide +kernel
theorem d_Model_again_8 : decode b_Model_again 8 = .ok (.invokevirtual 155, 3) := by decide +kernel
theorem d_Model_again_11 : decode b_Model_again 11 = .ok (.ireturn, 1) := by decide +kernel
theorem d_Model_isPart_0 : decode b_Model_isPart 0 = .ok (.aload_n 0, 1) := by decide +kernel
theorem d_Model_isPart_1 : decode b_Model_isPart 1 = .ok (.iload_n 1, 1) := by decide +kernel
theorem d_Model_isPart_2 : decode b_Model_isPart 2 = .ok (.invokevirtual 120, 3) := by decide +kernel
theorem d_Model_isPart_5 : decode b_Model_isPart 5 = .ok (.ifCond .eq 21, 3) := by decide +kernel
theorem d_Model_isPart_8 : decode b_Model_isPart 8 = .ok (.iload_n 2, 1) := by decide +kernel
theorem d_Model_isPart_9 : decode b_Model_isPart 9 = .ok (.ifCond .lt 17, 3) := by decide +kernel
theorem d_Model_isPart_12 : decode b_Model_isPart 12 = .ok (.iload_n 2, 1) := by decide +kernel
theorem d_Model_isPart_13 : decode b_Model_isPart 13 = .ok (.aload_n 0, 1) := by decide +kernel
theorem d_Model_isPart_14 : decode b_Model_isPart 14 = .ok (.getfield 39, 3) := by decide +kernel
theorem d_Model_isPart_17 : decode b_Model_isPart 17 = .ok (.iload_n 1, 1) := by decide +kernel
theorem d_Model_isPart_18 : decode b_Model_isPart 18 = .ok (.iaload, 1) := by decide +kernel
theorem d_Model_isPart_19 : decode b_Model_isPart 19 = .ok (.if_icmp .ge 7, 3) := by decide +kernel
theorem d_Model_isPart_22 : decode b_Model_isPart 22 = .ok (.iconst 1, 1) := by decide +kernel
theorem d_Model_isPart_23 : decode b_Model_isPart 23 = .ok (.goto 4, 3) := by decide +kernel
theorem d_Model_isPart_26 : decode b_Model_isPart 26 = .ok (.iconst 0, 1) := by decide +kernel
theorem d_Model_isPart_27 : decode b_Model_isPart 27 = .ok (.ireturn, 1) := by decide +kernel
theorem d_Model_chair_0 : decode b_Model_chair 0 = .ok (.aload_n 0, 1) := by decide +kernel
theorem d_Model_chair_1 : decode b_Model_chair 1 = .ok (.iconst 0, 1) := by decide +kernel
theorem d_Model_chair_2 : decode b_Model_chair 2 = .ok (.putfield 104, 3) := by decide +kernel
theorem d_Model_chair_5 : decode b_Model_chair 5 = .ok (.aload_n 0, 1) := by decide +kernel
theorem d_Model_chair_6 : decode b_Model_chair 6 = .ok (.iload_n 1, 1) := by decide +kernel
theorem d_Model_chair_7 : decode b_Model_chair 7 = .ok (.iload_n 2, 1) := by decide +kernel
theorem d_Model_chair_8 : decode b_Model_chair 8 = .ok (.invokevirtual 159, 3) := by decide +kernel
theorem d_Model_chair_11 : decode b_Model_chair 11 = .ok (.ifCond .eq 19, 3) := by decide +kernel
theorem d_Model_chair_14 : decode b_Model_chair 14 = .ok (.aload_n 0, 1) := by decide +kernel
theorem d_Model_chair_15 : decode b_Model_chair 15 = .ok (.getfield 51, 3) := by decide +kernel
theorem d_Model_chair_18 : decode b_Model_chair 18 = .ok (.bipush 10, 2) := by decide +kernel
theorem d_Model_chair_20 : decode b_Model_chair 20 = .ok (.iload_n 1, 1) := by decide +kernel
theorem d_Model_chair_21 : decode b_Model_chair 21 = .ok (.imul, 1) := by decide +kernel
theorem d_Model_chair_22 : decode b_Model_chair 22 = .ok (.iload_n 2, 1) := by decide +kernel
theorem d_Model_chair_23 : decode b_Model_chair 23 = .ok (.iadd, 1) := by decide +kernel
theorem d_Model_chair_24 : decode b_Model_chair 24 = .ok (.iaload, 1) := by decide +kernel
theorem d_Model_chair_25 : decode b_Model_chair 25 = .ok (.iconst 1, 1) := by decide +kernel
theorem d_Model_chair_26 : decode b_Model_chair 26 = .ok (.isub, 1) := by decide +kernel
theorem d_Model_chair_27 : decode b_Model_chair 27 = .ok (.goto 4, 3) := by decide +kernel
theorem d_Model_chair_30 : decode b_Model_chair 30 = .ok (.iconst (-1), 1) := by decide +kernel
theorem d_Model_chair_31 : decode b_Model_chair 31 = .ok (.ireturn, 1) := by decide +kernel
theorem d_Model_sit_0 : decode b_Model_sit 0 = .ok (.aload_n 0, 1) := by decide +kernel
theorem d_Model_sit_1 : decode b_Model_sit 1 = .ok (.iconst 0, 1) := by decide +kernel
theorem d_Model_sit_2 : decode b_Model_sit 2 = .ok (.putfield 104, 3) := by decide +kernel
theorem d_Model_sit_5 : decode b_Model_sit 5 = .ok (.aload_n 0, 1) := by decide +kernel
theorem d_Model_sit_6 : decode b_Model_sit 6 = .ok (.iload_n 1, 1) := by decide +kernel
theorem d_Model_sit_7 : decode b_Model_sit 7 = .ok (.iload_n 2, 1) := by decide +kernel
theorem d_Model_sit_8 : decode b_Model_sit 8 = .ok (.invokevirtual 159, 3) := by decide +kernel
theorem d_Model_sit_11 : decode b_Model_sit 11 = .ok (.ifCond .ne 5, 3) := by decide +kernel
theorem d_Model_sit_14 : decode b_Model_sit 14 = .ok (.iconst 0, 1) := by decide +kernel
theorem d_Model_sit_15 : decode b_Model_sit 15 = .ok (.ireturn, 1) := by decide +kernel
theorem d_Model_sit_16 : decode b_Model_sit 16 = .ok (.iload_n 3, 1) := by decide +kernel
theorem d_Model_sit_17 : decode b_Model_sit 17 = .ok (.iconst (-1), 1) := by decide +kernel
theorem d_Model_sit_18 : decode b_Model_sit 18 = .ok (.if_icmp .eq 70, 3) := by decide +kernel
theorem d_Model_sit_21 : decode b_Model_sit 21 = .ok (.aload_n 0, 1) := by decide +kernel
theorem d_Model_sit_22 : decode b_Model_sit 22 = .ok (.iload_n 3, 1) := by decide +kernel
theorem d_Model_sit_23 : decode b_Model_sit 23 = .ok (.invokevirtual 110, 3) := by decide +kernel
theorem d_Model_sit_26 : decode b_Model_sit 26 = .ok (.ifCond .eq 14, 3) := by decide +kernel
theorem d_Model_sit_29 : decode b_Model_sit 29 = .ok (.aload_n 0, 1) := by decide +kernel
theorem d_Model_sit_30 : decode b_Model_sit 30 = .ok (.iload_n 1, 1) := by decide +kernel
theorem d_Model_sit_31 : decode b_Model_sit 31 = .ok (.iload_n 2, 1) := by decide +kernel
theorem d_Model_sit_32 : decode b_Model_sit 32 = .ok (.iload_n 3, 1) := by decide +kernel
theorem d_Model_sit_33 : decode b_Model_sit 33 = .ok (.invokevirtual 123, 3) := by decide +kernel
theorem d_Model_sit_36 : decode b_Model_sit 36 = .ok (.iconst (-1), 1) := by decide +kernel
theorem d_Model_sit_37 : decode b_Model_sit 37 = .ok (.if_icmp .ne 5, 3) := by decide +kernel
theorem d_Model_sit_40 : decode b_Model_sit 40 = .ok (.iconst 0, 1) := by decide +kernel
theorem d_Model_sit_41 : decode b_Model_sit 41 = .ok (.ireturn, 1) := by decide +kernel
theorem d_Model_sit_42 : decode b_Model_sit 42 = .ok (.iconst 0, 1) := by decide +kernel
theorem d_Model_sit_43 : decode b_Model_sit 43 = .ok (.istore 4, 2) := by decide +kernel
theorem d_Model_sit_45 : decode b_Model_sit 45 = .ok (.iload 4, 2) := by decide +kernel
theorem d_Model_sit_47 : decode b_Model_sit 47 = .ok (.aload_n 0, 1) := by decide +kernel
theorem d_Model_sit_48 : decode b_Model_sit 48 = .ok (.getfield 39, 3) := by decide +kernel
theorem d_Model_sit_51 : decode b_Model_sit 51 = .ok (.iload_n 1, 1) := by decide +kernel
theorem d_Model_sit_52 : decode b_Model_sit 52 = .ok (.iaload, 1) := by decide +kernel
theorem d_Model_sit_53 : decode b_Model_sit 53 = .ok (.if_icmp .ge 35, 3) := by decide +kernel
theorem d_Model_sit_56 : decode b_Model_sit 56 = .ok (.iload 4, 2) := by decide +kernel
theorem d_Model_sit_58 : decode b_Model_sit 58 = .ok (.iload_n 2, 1) := by decide +kernel
theorem d_Model_sit_59 : decode b_Model_sit 59 = .ok (.if_icmp .eq 23, 3) := by decide +kernel
theorem d_Model_sit_62 : decode b_Model_sit 62 = .ok (.aload_n 0, 1) := by decide +kernel
theorem d_Model_sit_63 : decode b_Model_sit 63 = .ok (.getfield 51, 3) := by decide +kernel
theorem d_Model_sit_66 : decode b_Model_sit 66 = .ok (.bipush 10, 2) := by decide +kernel
theorem d_Model_sit_68 : decode b_Model_sit 68 = .ok (.iload_n 1, 1) := by decide +kernel
theorem d_Model_sit_69 : decode b_Model_sit 69 = .ok (.imul, 1) := by decide +kernel
theorem d_Model_sit_70 : decode b_Model_sit 70 = .ok (.iload 4, 2) := by decide +kernel
theorem d_Model_sit_72 : decode b_Model_sit 72 = .ok (.iadd, 1) := by decide +kernel
theorem d_Model_sit_73 : decode b_Model_sit 73 = .ok (.iaload, 1) := by decide +kernel
theorem d_Model_sit_74 : decode b_Model_sit 74 = .ok (.iload_n 3, 1) := by decide +kernel
theorem d_Model_sit_75 : decode b_Model_sit 75 = .ok (.iconst 1, 1) := by decide +kernel
theorem d_Model_sit_76 : decode b_Model_sit 76 = .ok (.iadd, 1) := by decide +kernel
theorem d_Model_sit_77 : decode b_Model_sit 77 = .ok (.if_icmp .ne 5, 3) := by decide +kernel
theorem d_Model_sit_80 : decode b_Model_sit 80 = .ok (.iconst 0, 1) := by decide +kernel
theorem d_Model_sit_81 : decode b_Model_sit 81 = .ok (.ireturn, 1) := by decide +kernel
theorem d_Model_sit_82 : decode b_Model_sit 82 = .ok (.iinc 4 1, 3) := by decide +kernel
theorem d_Model_sit_85 : decode b_Model_sit 85 = .ok (.goto (-40), 3) := by decide +kernel
theorem d_Model_sit_88 : decode b_Model_sit 88 = .ok (.aload_n 0, 1) := by decide +kernel
theorem d_Model_sit_89 : decode b_Model_sit 89 = .ok (.getfield 51, 3) := by decide +kernel
theorem d_Model_sit_92 : decode b_Model_sit 92 = .ok (.bipush 10, 2) := by decide +kernel
theorem d_Model_sit_94 : decode b_Model_sit 94 = .ok (.iload_n 1, 1) := by decide +kernel
theorem d_Model_sit_95 : decode b_Model_sit 95 = .ok (.imul, 1) := by decide +kernel
theorem d_Model_sit_96 : decode b_Model_sit 96 = .ok (.iload_n 2, 1) := by decide +kernel
theorem d_Model_sit_97 : decode b_Model_sit 97 = .ok (.iadd, 1) := by decide +kernel
theorem d_Model_sit_98 : decode b_Model_sit 98 = .ok (.iload_n 3, 1) := by decide +kernel
theorem d_Model_sit_99 : decode b_Model_sit 99 = .ok (.iconst 1, 1) := by decide +kernel
theorem d_Model_sit_100 : decode b_Model_sit 100 = .ok (.iadd, 1) := by decide +kernel
theorem d_Model_sit_101 : decode b_Model_sit 101 = .ok (.iastore, 1) := by decide +kernel
theorem d_Model_sit_102 : decode b_Model_sit 102 = .ok (.iconst 1, 1) := by decide +kernel
theorem d_Model_sit_103 : decode b_Model_sit 103 = .ok (.ireturn, 1) := by decide +kernel
theorem d_Model_seating_0 : decode b_Model_seating 0 = .ok (.aload_n 0, 1) := by decide +kernel
theorem d_Model_seating_1 : decode b_Model_seating 1 = .ok (.iconst 0, 1) := by decide +kernel
theorem d_Model_seating_2 : decode b_Model_seating 2 = .ok (.putfield 104, 3) := by decide +kernel
theorem d_Model_seating_5 : decode b_Model_seating 5 = .ok (.aload_n 0, 1) := by decide +kernel
theorem d_Model_seating_6 : decode b_Model_seating 6 = .ok (.iload_n 1, 1) := by decide +kernel
theorem d_Model_seating_7 : decode b_Model_seating 7 = .ok (.invokevirtual 120, 3) := by decide +kernel
theorem d_Model_seating_10 : decode b_Model_seating 10 = .ok (.ifCond .eq 12, 3) := by decide +kernel
theorem d_Model_seating_13 : decode b_Model_seating 13 = .ok (.iload_n 2, 1) := by decide +kernel
theorem d_Model_seating_14 : decode b_Model_seating 14 = .ok (.ifCond .lt 8, 3) := by decide +kernel
theorem d_Model_seating_17 : decode b_Model_seating 17 = .ok (.iload_n 2, 1) := by decide +kernel
theorem d_Model_seating_18 : decode b_Model_seating 18 = .ok (.iconst 2, 1) := by decide +kernel
theorem d_Model_seating_19 : decode b_Model_seating 19 = .ok (.if_icmp .le 5, 3) := by decide +kernel
theorem d_Model_seating_22 : decode b_Model_seating 22 = .ok (.iconst (-1), 1) := by decide +kernel
theorem d_Model_seating_23 : decode b_Model_seating 23 = .ok (.ireturn, 1) := by decide +kernel
theorem d_Model_seating_24 : decode b_Model_seating 24 = .ok (.iconst 0, 1) := by decide +kernel
theorem d_Model_seating_25 : decode b_Model_seating 25 = .ok (.istore_n 3, 1) := by decide +kernel
theorem d_Model_seating_26 : decode b_Model_seating 26 = .ok (.iconst 0, 1) := by decide +kernel
theorem d_Model_seating_27 : decode b_Model_seating 27 = .ok (.istore 4, 2) := by decide +kernel
theorem d_Model_seating_29 : decode b_Model_seating 29 = .ok (.iconst 0, 1) := by decide +kernel
theorem d_Model_seating_30 : decode b_Model_seating 30 = .ok (.istore 5, 2) := by decide +kernel
theorem d_Model_seating_32 : decode b_Model_seating 32 = .ok (.iconst 0, 1) := by decide +kernel
theorem d_Model_seating_33 : decode b_Model_seating 33 = .ok (.istore 6, 2) := by decide +kernel
theorem d_Model_seating_35 : decode b_Model_seating 35 = .ok (.iload 6, 2) := by decide +kernel
theorem d_Model_seating_37 : decode b_Model_seating 37 = .ok (.aload_n 0, 1) := by decide +kernel
theorem d_Model_seating_38 : decode b_Model_seating 38 = .ok (.getfield 39, 3) := by decide +kernel
theorem d_Model_seating_41 : decode b_Model_seating 41 = .ok (.iload_n 1, 1) := by decide +kernel
theorem d_Model_seating_42 : decode b_Model_seating 42 = .ok (.iaload, 1) := by decide +kernel
theorem d_Model_seating_43 : decode b_Model_seating 43 = .ok (.if_icmp .ge 81, 3) := by decide +kernel
theorem d_Model_seating_46 : decode b_Model_seating 46 = .ok (.aload_n 0, 1) := by decide +kernel
theorem d_Model_seating_47 : decode b_Model_seating 47 = .ok (.getfield 51, 3) := by decide +kernel
theorem d_Model_seating_50 : decode b_Model_seating 50 = .ok (.bipush 10, 2) := by decide +kernel
theorem d_Model_seating_52 : decode b_Model_seating 52 = .ok (.iload_n 1, 1) := by decide +kernel
theorem d_Model_seating_53 : decode b_Model_seating 53 = .ok (.imul, 1) := by decide +kernel
theorem d_Model_seating_54 : decode b_Model_seating 54 = .ok (.iload 6, 2) := by decide +kernel
theorem d_Model_seating_56 : decode b_Model_seating 56 = .ok (.iadd, 1) := by decide +kernel
theorem d_Model_seating_57 : decode b_Model_seating 57 = .ok (.iaload, 1) := by decide +kernel
theorem d_Model_seating_58 : decode b_Model_seating 58 = .ok (.iconst 1, 1) := by decide +kernel
theorem d_Model_seating_59 : decode b_Model_seating 59 = .ok (.isub, 1) := by decide +kernel
theorem d_Model_seating_60 : decode b_Model_seating 60 = .ok (.istore 7, 2) := by decide +kernel
theorem d_Model_seating_62 : decode b_Model_seating 62 = .ok (.iload 7, 2) := by decide +kernel
theorem d_Model_seating_64 : decode b_Model_seating 64 = .ok (.ifCond .ge 6, 3) := by decide +kernel
theorem d_Model_seating_67 : decode b_Model_seating 67 = .ok (.goto 51, 3) := by decide +kernel
theorem d_Model_seating_70 : decode b_Model_seating 70 = .ok (.aload_n 0, 1) := by decide +kernel
theorem d_Model_seating_71 : decode b_Model_seating 71 = .ok (.iload_n 1, 1) := by decide +kernel
theorem d_Model_seating_72 : decode b_Model_seating 72 = .ok (.iload 6, 2) := by decide +kernel
theorem d_Model_seating_74 : decode b_Model_seating 74 = .ok (.iload 7, 2) := by decide +kernel
theorem d_Model_seating_76 : decode b_Model_seating 76 = .ok (.invokevirtual 123, 3) := by decide +kernel
theorem d_Model_seating_79 : decode b_Model_seating 79 = .ok (.istore 8, 2) := by decide +kernel
theorem d_Model_seating_81 : decode b_Model_seating 81 = .ok (.iload_n 3, 1) := by decide +kernel
theorem d_Model_seating_82 : decode b_Model_seating 82 = .ok (.iload 8, 2) := by decide +kernel
theorem d_Model_seating_84 : decode b_Model_seating 84 = .ok (.iconst (-1), 1) := by decide +kernel
theorem d_Model_seating_85 : decode b_Model_seating 85 = .ok (.if_icmp .ne 7, 3) := by decide +kernel
theorem d_Model_seating_88 : decode b_Model_seating 88 = .ok (.iconst 0, 1) := by decide +kernel
theorem d_Model_seating_89 : decode b_Model_seating 89 = .ok (.goto 5, 3) := by decide +kernel
theorem d_Model_seating_92 : decode b_Model_seating 92 = .ok (.iload 8, 2) := by decide +kernel
theorem d_Model_seating_94 : decode b_Model_seating 94 = .ok (.iadd, 1) := by decide +kernel
theorem d_Model_seating_95 : decode b_Model_seating 95 = .ok (.istore_n 3, 1) := by decide +kernel
theorem d_Model_seating_96 : decode b_Model_seating 96 = .ok (.iload 4, 2) := by decide +kernel
theorem d_Model_seating_98 : decode b_Model_seating 98 = .ok (.iconst 1, 1) := by decide +kernel
theorem d_Model_seating_99 : decode b_Model_seating 99 = .ok (.iadd, 1) := by decide +kernel
theorem d_Model_seating_100 : decode b_Model_seating 100 = .ok (.istore 4, 2) := by decide +kernel
theorem d_Model_seating_102 : decode b_Model_seating 102 = .ok (.aload_n 0, 1) := by decide +kernel
theorem d_Model_seating_103 : decode b_Model_seating 103 = .ok (.getfield 19, 3) := by decide +kernel
theorem d_Model_seating_106 : decode b_Model_seating 106 = .ok (.iload 7, 2) := by decide +kernel
theorem d_Model_seating_108 : decode b_Model_seating 108 = .ok (.baload, 1) := by decide +kernel
theorem d_Model_seating_109 : decode b_Model_seating 109 = .ok (.ifCond .ne 9, 3) := by decide +kernel
theorem d_Model_seating_112 : decode b_Model_seating 112 = .ok (.iload 5, 2) := by decide +kernel
theorem d_Model_seating_114 : decode b_Model_seating 114 = .ok (.iconst 1, 1) := by decide +kernel
theorem d_Model_seating_115 : decode b_Model_seating 115 = .ok (.iadd, 1) := by decide +kernel
theorem d_Model_seating_116 : decode b_Model_seating 116 = .ok (.istore 5, 2) := by decide +kernel
theorem d_Model_seating_118 : decode b_Model_seating 118 = .ok (.iinc 6 1, 3) := by decide +kernel
theorem d_Model_seating_121 : decode b_Model_seating 121 = .ok (.goto (-86), 3) := by decide +kernel
theorem d_Model_seating_124 : decode b_Model_seating 124 = .ok (.iload_n 2, 1) := by decide +kernel
theorem d_Model_seating_125 : decode b_Model_seating 125 = .ok (.ifCond .ne 7, 3) := by decide +kernel
theorem d_Model_seating_128 : decode b_Model_seating 128 = .ok (.iload_n 3, 1) := by decide +kernel
theorem d_Model_seating_129 : decode b_Model_seating 129 = .ok (.goto 15, 3) := by decide +kernel
theorem d_Model_seating_132 : decode b_Model_seating 132 = .ok (.iload_n 2, 1) := by decide +kernel
theorem d_Model_seating_133 : decode b_Model_seating 133 = .ok (.iconst 1, 1) := by decide +kernel
theorem d_Model_seating_134 : decode b_Model_seating 134 = .ok (.if_icmp .ne 8, 3) := by decide +kernel
theorem d_Model_seating_137 : decode b_Model_seating 137 = .ok (.iload 4, 2) := by decide +kernel
theorem d_Model_seating_139 : decode b_Model_seating 139 = .ok (.goto 5, 3) := by decide +kernel
theorem d_Model_seating_142 : decode b_Model_seating 142 = .ok (.iload 5, 2) := by decide +kernel
theorem d_Model_seating_144 : decode b_Model_seating 144 = .ok (.ireturn, 1) := by decide +kernel
theorem d_Model_sumOf_0 : decode b_Model_sumOf 0 = .ok (.iconst 0, 1) := by decide +kernel
theorem d_Model_sumOf_1 : decode b_Model_sumOf 1 = .ok (.istore_n 2, 1) := by decide +kernel
theorem d_Model_sumOf_2 : decode b_Model_sumOf 2 = .ok (.iconst 0, 1) := by decide +kernel
theorem d_Model_sumOf_3 : decode b_Model_sumOf 3 = .ok (.istore_n 3, 1) := by decide +kernel
theorem d_Model_sumOf_4 : decode b_Model_sumOf 4 = .ok (.iload_n 3, 1) := by decide +kernel
theorem d_Model_sumOf_5 : decode b_Model_sumOf 5 = .ok (.aload_n 0, 1) := by decide +kernel
theorem d_Model_sumOf_6 : decode b_Model_sumOf 6 = .ok (.getfield 117, 3) := by decide +kernel
theorem d_Model_sumOf_9 : decode b_Model_sumOf 9 = .ok (.if_icmp .ge 27, 3) := by decide +kernel
theorem d_Model_sumOf_12 : decode b_Model_sumOf 12 = .ok (.iload_n 1, 1) := by decide +kernel
theorem d_Model_sumOf_13 : decode b_Model_sumOf 13 = .ok (.iload_n 3, 1) := by decide +kernel
theorem d_Model_sumOf_14 : decode b_Model_sumOf 14 = .ok (.ishr, 1) := by decide +kernel
theorem d_Model_sumOf_15 : decode b_Model_sumOf 15 = .ok (.iconst 1, 1) := by decide +kernel
theorem d_Model_sumOf_16 : decode b_Model_sumOf 16 = .ok (.iand, 1) := by decide +kernel
theorem d_Model_sumOf_17 : decode b_Model_sumOf 17 = .ok (.iconst 1, 1) := by decide +kernel
theorem d_Model_sumOf_18 : decode b_Model_sumOf 18 = .ok (.if_icmp .ne 12, 3) := by decide +kernel
theorem d_Model_sumOf_21 : decode b_Model_sumOf 21 = .ok (.iload_n 2, 1) := by decide +kernel
theorem d_Model_sumOf_22 : decode b_Model_sumOf 22 = .ok (.aload_n 0, 1) := by decide +kernel
theorem d_Model_sumOf_23 : decode b_Model_sumOf 23 = .ok (.getfield 30, 3) := by decide +kernel
theorem d_Model_sumOf_26 : decode b_Model_sumOf 26 = .ok (.iload_n 3, 1) := by decide +kernel
theorem d_Model_sumOf_27 : decode b_Model_sumOf 27 = .ok (.iaload, 1) := by decide +kernel
theorem d_Model_sumOf_28 : decode b_Model_sumOf 28 = .ok (.iadd, 1) := by decide +kernel
theorem d_Model_sumOf_29 : decode b_Model_sumOf 29 = .ok (.istore_n 2, 1) := by decide +kernel
theorem d_Model_sumOf_30 : decode b_Model_sumOf 30 = .ok (.iinc 3 1, 3) := by decide +kernel
theorem d_Model_sumOf_33 : decode b_Model_sumOf 33 = .ok (.goto (-29), 3) := by decide +kernel
theorem d_Model_sumOf_36 : decode b_Model_sumOf 36 = .ok (.iload_n 2, 1) := by decide +kernel
theorem d_Model_sumOf_37 : decode b_Model_sumOf 37 = .ok (.ireturn, 1) := by decide +kernel
theorem d_Model_strainOf_0 : decode b_Model_strainOf 0 = .ok (.aload_n 0, 1) := by decide +kernel
theorem d_Model_strainOf_1 : decode b_Model_strainOf 1 = .ok (.getfield 36, 3) := by decide +kernel
theorem d_Model_strainOf_4 : decode b_Model_strainOf 4 = .ok (.iload_n 1, 1) := by decide +kernel
theorem d_Model_strainOf_5 : decode b_Model_strainOf 5 = .ok (.iaload, 1) := by decide +kernel
theorem d_Model_strainOf_6 : decode b_Model_strainOf 6 = .ok (.aload_n 0, 1) := by decide +kernel
theorem d_Model_strainOf_7 : decode b_Model_strainOf 7 = .ok (.getfield 36, 3) := by decide +kernel
theorem d_Model_strainOf_10 : decode b_Model_strainOf 10 = .ok (.iload_n 2, 1) := by decide +kernel
theorem d_Model_strainOf_11 : decode b_Model_strainOf 11 = .ok (.iaload, 1) := by decide +kernel
theorem d_Model_strainOf_12 : decode b_Model_strainOf 12 = .ok (.if_icmp .ge 19, 3) := by decide +kernel
theorem d_Model_strainOf_15 : decode b_Model_strainOf 15 = .ok (.aload_n 0, 1) := by decide +kernel
theorem d_Model_strainOf_16 : decode b_Model_strainOf 16 = .ok (.getfield 36, 3) := by decide +kernel
theorem d_Model_strainOf_19 : decode b_Model_strainOf 19 = .ok (.iload_n 2, 1) := by decide +kernel
theorem d_Model_strainOf_20 : decode b_Model_strainOf 20 = .ok (.iaload, 1) := by decide +kernel
theorem d_Model_strainOf_21 : decode b_Model_strainOf 21 = .ok (.aload_n 0, 1) := by decide +kernel
theorem d_Model_strainOf_22 : decode b_Model_strainOf 22 = .ok (.getfield 36, 3) := by decide +kernel
theorem d_Model_strainOf_25 : decode b_Model_strainOf 25 = .ok (.iload_n 1, 1) := by decide +kernel
theorem d_Model_strainOf_26 : decode b_Model_strainOf 26 = .ok (.iaload, 1) := by decide +kernel
theorem d_Model_strainOf_27 : decode b_Model_strainOf 27 = .ok (.isub, 1) := by decide +kernel
theorem d_Model_strainOf_28 : decode b_Model_strainOf 28 = .ok (.goto 16, 3) := by decide +kernel
theorem d_Model_strainOf_31 : decode b_Model_strainOf 31 = .ok (.aload_n 0, 1) := by decide +kernel
theorem d_Model_strainOf_32 : decode b_Model_strainOf 32 = .ok (.getfield 36, 3) := by decide +kernel
theorem d_Model_strainOf_35 : decode b_Model_strainOf 35 = .ok (.iload_n 1, 1) := by decide +kernel
theorem d_Model_strainOf_36 : decode b_Model_strainOf 36 = .ok (.iaload, 1) := by decide +kernel
theorem d_Model_strainOf_37 : decode b_Model_strainOf 37 = .ok (.aload_n 0, 1) := by decide +kernel
theorem d_Model_strainOf_38 : decode b_Model_strainOf 38 = .ok (.getfield 36, 3) := by decide +kernel
theorem d_Model_strainOf_41 : decode b_Model_strainOf 41 = .ok (.iload_n 2, 1) := by decide +kernel
theorem d_Model_strainOf_42 : decode b_Model_strainOf 42 = .ok (.iaload, 1) := by decide +kernel
theorem d_Model_strainOf_43 : decode b_Model_strainOf 43 = .ok (.isub, 1) := by decide +kernel
theorem d_Model_strainOf_44 : decode b_Model_strainOf 44 = .ok (.istore_n 3, 1) := by decide +kernel
theorem d_Model_strainOf_45 : decode b_Model_strainOf 45 = .ok (.iload_n 3, 1) := by decide +kernel
theorem d_Model_strainOf_46 : decode b_Model_strainOf 46 = .ok (.bipush 6, 2) := by decide +kernel
theorem d_Model_strainOf_48 : decode b_Model_strainOf 48 = .ok (.if_icmp .le 10, 3) := by decide +kernel
theorem d_Model_strainOf_51 : decode b_Model_strainOf 51 = .ok (.bipush 12, 2) := by decide +kernel
theorem d_Model_strainOf_53 : decode b_Model_strainOf 53 = .ok (.iload_n 3, 1) := by decide +kernel
theorem d_Model_strainOf_54 : decode b_Model_strainOf 54 = .ok (.isub, 1) := by decide +kernel
theorem d_Model_strainOf_55 : decode b_Model_strainOf 55 = .ok (.goto 4, 3) := by decide +kernel
theorem d_Model_strainOf_58 : decode b_Model_strainOf 58 = .ok (.iload_n 3, 1) := by decide +kernel
theorem d_Model_strainOf_59 : decode b_Model_strainOf 59 = .ok (.ireturn, 1) := by decide +kernel
theorem d_Model_goes_0 : decode b_Model_goes 0 = .ok (.iload_n 1, 1) := by decide +kernel
theorem d_Model_goes_1 : decode b_Model_goes 1 = .ok (.iload_n 3, 1) := by decide +kernel
theorem d_Model_goes_2 : decode b_Model_goes 2 = .ok (.ishr, 1) := by decide +kernel
theorem d_Model_goes_3 : decode b_Model_goes 3 = .ok (.iconst 1, 1) := by decide +kernel
theorem d_Model_goes_4 : decode b_Model_goes 4 = .ok (.iand, 1) := by decide +kernel
theorem d_Model_goes_5 : decode b_Model_goes 5 = .ok (.ifCond .ne 38, 3) := by decide +kernel
theorem d_Model_goes_8 : decode b_Model_goes 8 = .ok (.aload_n 0, 1) := by decide +kernel
theorem d_Model_goes_9 : decode b_Model_goes 9 = .ok (.getfield 67, 3) := by decide +kernel
theorem d_Model_goes_12 : decode b_Model_goes 12 = .ok (.iload_n 3, 1) := by decide +kernel
theorem d_Model_goes_13 : decode b_Model_goes 13 = .ok (.baload, 1) := by decide +kernel
theorem d_Model_goes_14 : decode b_Model_goes 14 = .ok (.ifCond .eq 29, 3) := by decide +kernel
theorem d_Model_goes_17 : decode b_Model_goes 17 = .ok (.iload_n 1, 1) := by decide +kernel
theorem d_Model_goes_18 : decode b_Model_goes 18 = .ok (.ifCond .eq 21, 3) := by decide +kernel
theorem d_Model_goes_21 : decode b_Model_goes 21 = .ok (.aload_n 0, 1) := by decide +kernel
theorem d_Model_goes_22 : decode b_Model_goes 22 = .ok (.getfield 33, 3) := by decide +kernel
theorem d_Model_goes_25 : decode b_Model_goes 25 = .ok (.iload_n 2, 1) := by decide +kernel
theorem d_Model_goes_26 : decode b_Model_goes 26 = .ok (.iaload, 1) := by decide +kernel
theorem d_Model_goes_27 : decode b_Model_goes 27 = .ok (.aload_n 0, 1) := by decide +kernel
theorem d_Model_goes_28 : decode b_Model_goes 28 = .ok (.getfield 33, 3) := by decide +kernel
theorem d_Model_goes_31 : decode b_Model_goes 31 = .ok (.iload_n 3, 1) := by decide +kernel
theorem d_Model_goes_32 : decode b_Model_goes 32 = .ok (.iaload, 1) := by decide +kernel
theorem d_Model_goes_33 : decode b_Model_goes 33 = .ok (.iadd, 1) := by decide +kernel
theorem d_Model_goes_34 : decode b_Model_goes 34 = .ok (.iload 4, 2) := by decide +kernel
theorem d_Model_goes_36 : decode b_Model_goes 36 = .ok (.if_icmp .gt 7, 3) := by decide +kernel
theorem d_Model_goes_39 : decode b_Model_goes 39 = .ok (.iconst 1, 1) := by decide +kernel
theorem d_Model_goes_40 : decode b_Model_goes 40 = .ok (.goto 4, 3) := by decide +kernel
theorem d_Model_goes_43 : decode b_Model_goes 43 = .ok (.iconst 0, 1) := by decide +kernel
theorem d_Model_goes_44 : decode b_Model_goes 44 = .ok (.ireturn, 1) := by decide +kernel
theorem d_Model_programme_0 : decode b_Model_programme 0 = .ok (.aload_n 0, 1) := by decide +kernel
theorem d_Model_programme_1 : decode b_Model_programme 1 = .ok (.iconst 0, 1) := by decide +kernel
theorem d_Model_programme_2 : decode b_Model_programme 2 = .ok (.putfield 104, 3) := by decide +kernel
theorem d_Model_programme_5 : decode b_Model_programme 5 = .ok (.iload_n 1, 1) := by decide +kernel
theorem d_Model_programme_6 : decode b_Model_programme 6 = .ok (.ifCond .lt 20, 3) := by decide +kernel
theorem d_Model_programme_9 : decode b_Model_programme 9 = .ok (.iload_n 1, 1) := by decide +kernel
theorem d_Model_programme_10 : decode b_Model_programme 10 = .ok (.sipush 600, 3) := by decide +kernel
theorem d_Model_programme_13 : decode b_Model_programme 13 = .ok (.if_icmp .gt 13, 3) := by decide +kernel
theorem d_Model_programme_16 : decode b_Model_programme 16 = .ok (.iload_n 2, 1) := by decide +kernel
theorem d_Model_programme_17 : decode b_Model_programme 17 = .ok (.ifCond .lt 9, 3) := by decide +kernel
theorem d_Model_programme_20 : decode b_Model_programme 20 = .ok (.iload_n 2, 1) := by decide +kernel
theorem d_Model_programme_21 : decode b_Model_programme 21 = .ok (.bipush 18, 2) := by decide +kernel
theorem d_Model_programme_23 : decode b_Model_programme 23 = .ok (.if_icmp .le 5, 3) := by decide +kernel
theorem d_Model_programme_26 : decode b_Model_programme 26 = .ok (.iconst (-1), 1) := by decide +kernel
theorem d_Model_programme_27 : decode b_Model_programme 27 = .ok (.ireturn, 1) := by decide +kernel
theorem d_Model_programme_28 : decode b_Model_programme 28 = .ok (.iconst 1, 1) := by decide +kernel
theorem d_Model_programme_29 : decode b_Model_programme 29 = .ok (.aload_n 0, 1) := by decide +kernel
theorem d_Model_programme_30 : decode b_Model_programme 30 = .ok (.getfield 117, 3) := by decide +kernel
theorem d_Model_programme_33 : decode b_Model_programme 33 = .ok (.ishl, 1) := by decide +kernel
theorem d_Model_programme_34 : decode b_Model_programme 34 = .ok (.istore_n 3, 1) := by decide +kernel
theorem d_Model_programme_35 : decode b_Model_programme 35 = .ok (.iconst 0, 1) := by decide +kernel
theorem d_Model_programme_36 : decode b_Model_programme 36 = .ok (.istore 4, 2) := by decide +kernel
theorem d_Model_programme_38 : decode b_Model_programme 38 = .ok (.iload 4, 2) := by decide +kernel
theorem d_Model_programme_40 : decode b_Model_programme 40 = .ok (.aload_n 0, 1) := by decide +kernel
theorem d_Model_programme_41 : decode b_Model_programme 41 = .ok (.getfield 117, 3) := by decide +kernel
theorem d_Model_programme_44 : decode b_Model_programme 44 = .ok (.if_icmp .ge 30, 3) := by decide +kernel
theorem d_Model_programme_47 : decode b_Model_programme 47 = .ok (.aload_n 0, 1) := by decide +kernel
theorem d_Model_programme_48 : decode b_Model_programme 48 = .ok (.getfield 67, 3) := by decide +kernel
theorem d_Model_programme_51 : decode b_Model_programme 51 = .ok (.iload 4, 2) := by decide +kernel
theorem d_Model_programme_53 : decode b_Model_programme 53 = .ok (.aload_n 0, 1) := by decide +kernel
theorem d_Model_programme_54 : decode b_Model_programme 54 = .ok (.iload 4, 2) := by decide +kernel
theorem d_Model_programme_56 : decode b_Model_programme 56 = .ok (.invokevirtual 131, 3) := by decide +kernel
theorem d_Model_programme_59 : decode b_Model_programme 59 = .ok (.ifCond .ne 7, 3) := by decide +kernel
theorem d_Model_programme_62 : decode b_Model_programme 62 = .ok (.iconst 1, 1) := by decide +kernel
theorem d_Model_programme_63 : decode b_Model_programme 63 = .ok (.goto 4, 3) := by decide +kernel
theorem d_Model_programme_66 : decode b_Model_programme 66 = .ok (.iconst 0, 1) := by decide +kernel
theorem d_Model_programme_67 : decode b_Model_programme 67 = .ok (.bastore, 1) := by decide +kernel
theorem d_Model_programme_68 : decode b_Model_programme 68 = .ok (.iinc 4 1, 3) := by decide +kernel
theorem d_Model_programme_71 : decode b_Model_programme 71 = .ok (.goto (-33), 3) := by decide +kernel
theorem d_Model_programme_74 : decode b_Model_programme 74 = .ok (.iconst 0, 1) := by decide +kernel
theorem d_Model_programme_75 : decode b_Model_programme 75 = .ok (.istore 4, 2) := by decide +kernel
theorem d_Model_programme_77 : decode b_Model_programme 77 = .ok (.iload 4, 2) := by decide +kernel
theorem d_Model_programme_79 : decode b_Model_programme 79 = .ok (.sipush 10240, 3) := by decide +kernel
theorem d_Model_programme_82 : decode b_Model_programme 82 = .ok (.if_icmp .ge 17, 3) := by decide +kernel
theorem d_Model_programme_85 : decode b_Model_programme 85 = .ok (.aload_n 0, 1) := by decide +kernel
theorem d_Model_programme_86 : decode b_Model_programme 86 = .ok (.getfield 64, 3) := by decide +kernel
theorem d_Model_programme_89 : decode b_Model_programme 89 = .ok (.iload 4, 2) := by decide +kernel
theorem d_Model_programme_91 : decode b_Model_programme 91 = .ok (.iconst 0, 1) := by decide +kernel
theorem d_Model_programme_92 : decode b_Model_programme 92 = .ok (.bastore, 1) := by decide +kernel
theorem d_Model_programme_93 : decode b_Model_programme 93 = .ok (.iinc 4 1, 3) := by decide +kernel
theorem d_Model_programme_96 : decode b_Model_programme 96 = .ok (.goto (-19), 3) := by decide +kernel
theorem d_Model_programme_99 : decode b_Model_programme 99 = .ok (.aload_n 0, 1) := by decide +kernel
theorem d_Model_programme_100 : decode b_Model_programme 100 = .ok (.getfield 64, 3) := by decide +kernel
theorem d_Model_programme_103 : decode b_Model_programme 103 = .ok (.iconst 0, 1) := by decide +kernel
theorem d_Model_programme_104 : decode b_Model_programme 104 = .ok (.iconst 1, 1) := by decide +kernel
theorem d_Model_programme_105 : decode b_Model_programme 105 = .ok (.bastore, 1) := by decide +kernel
theorem d_Model_programme_106 : decode b_Model_programme 106 = .ok (.iconst 0, 1) := by decide +kernel
theorem d_Model_programme_107 : decode b_Model_programme 107 = .ok (.istore 4, 2) := by decide +kernel
theorem d_Model_programme_109 : decode b_Model_programme 109 = .ok (.iconst 0, 1) := by decide +kernel
theorem d_Model_programme_110 : decode b_Model_programme 110 = .ok (.istore 5, 2) := by decide +kernel
theorem d_Model_programme_112 : decode b_Model_programme 112 = .ok (.iload 5, 2) := by decide +kernel
theorem d_Model_programme_114 : decode b_Model_programme 114 = .ok (.iload_n 3, 1) := by decide +kernel
theorem d_Model_programme_115 : decode b_Model_programme 115 = .ok (.if_icmp .ge 129, 3) := by decide +kernel
theorem d_Model_programme_118 : decode b_Model_programme 118 = .ok (.iconst 0, 1) := by decide +kernel
theorem d_Model_programme_119 : decode b_Model_programme 119 = .ok (.istore 6, 2) := by decide +kernel
theorem d_Model_programme_121 : decode b_Model_programme 121 = .ok (.iload 6, 2) := by decide +kernel
theorem d_Model_programme_123 : decode b_Model_programme 123 = .ok (.bipush 10, 2) := by decide +kernel
theorem d_Model_programme_125 : decode b_Model_programme 125 = .ok (.if_icmp .ge 113, 3) := by decide +kernel
theorem d_Model_programme_128 : decode b_Model_programme 128 = .ok (.aload_n 0, 1) := by decide +kernel
theorem d_Model_programme_129 : decode b_Model_programme 129 = .ok (.getfield 64, 3) := by decide +kernel
theorem d_Model_programme_132 : decode b_Model_programme 132 = .ok (.bipush 10, 2) := by decide +kernel
theorem d_Model_programme_134 : decode b_Model_programme 134 = .ok (.iload 5, 2) := by decide +kernel
theorem d_Model_programme_136 : decode b_Model_programme 136 = .ok (.imul, 1) := by decide +kernel
theorem d_Model_programme_137 : decode b_Model_programme 137 = .ok (.iload 6, 2) := by decide +kernel
theorem d_Model_programme_139 : decode b_Model_programme 139 = .ok (.iadd, 1) := by decide +kernel
theorem d_Model_programme_140 : decode b_Model_programme 140 = .ok (.baload, 1) := by decide +kernel
theorem d_Model_programme_141 : decode b_Model_programme 141 = .ok (.ifCond .ne 6, 3) := by decide +kernel
theorem d_Model_programme_144 : decode b_Model_programme 144 = .ok (.goto 88, 3) := by decide +kernel
theorem d_Model_programme_147 : decode b_Model_programme 147 = .ok (.aload_n 0, 1) := by decide +kernel
theorem d_Model_programme_148 : decode b_Model_programme 148 = .ok (.iload 5, 2) := by decide +kernel
theorem d_Model_programme_150 : decode b_Model_programme 150 = .ok (.invokevirtual 162, 3) := by decide +kernel
theorem d_Model_programme_153 : decode b_Model_programme 153 = .ok (.iload 4, 2) := by decide +kernel
theorem d_Model_programme_155 : decode b_Model_programme 155 = .ok (.if_icmp .le 11, 3) := by decide +kernel
theorem d_Model_programme_158 : decode b_Model_programme 158 = .ok (.aload_n 0, 1) := by decide +kernel
theorem d_Model_programme_159 : decode b_Model_programme 159 = .ok (.iload 5, 2) := by decide +kernel
theorem d_Model_programme_161 : decode b_Model_programme 161 = .ok (.invokevirtual 162, 3) := by decide +kernel
theorem d_Model_programme_164 : decode b_Model_programme 164 = .ok (.istore 4, 2) := by decide +kernel
theorem d_Model_programme_166 : decode b_Model_programme 166 = .ok (.iconst 0, 1) := by decide +kernel
theorem d_Model_programme_167 : decode b_Model_programme 167 = .ok (.istore 7, 2) := by decide +kernel
theorem d_Model_programme_169 : decode b_Model_programme 169 = .ok (.iload 7, 2) := by decide +kernel
theorem d_Model_programme_171 : decode b_Model_programme 171 = .ok (.aload_n 0, 1) := by decide +kernel
theorem d_Model_programme_172 : decode b_Model_programme 172 = .ok (.getfield 117, 3) := by decide +kernel
theorem d_Model_programme_175 : decode b_Model_programme 175 = .ok (.if_icmp .ge 57, 3) := by decide +kernel
theorem d_Model_programme_178 : decode b_Model_programme 178 = .ok (.aload_n 0, 1) := by decide +kernel
theorem d_Model_programme_179 : decode b_Model_programme 179 = .ok (.iload 5, 2) := by decide +kernel
theorem d_Model_programme_181 : decode b_Model_programme 181 = .ok (.iload 6, 2) := by decide +kernel
theorem d_Model_programme_183 : decode b_Model_programme 183 = .ok (.iload 7, 2) := by decide +kernel
theorem d_Model_programme_185 : decode b_Model_programme 185 = .ok (.iload_n 2, 1) := by decide +kernel
theorem d_Model_programme_186 : decode b_Model_programme 186 = .ok (.invokevirtual 165, 3) := by decide +kernel
theorem d_Model_programme_189 : decode b_Model_programme 189 = .ok (.ifCond .eq 37, 3) := by decide +kernel
theorem d_Model_programme_192 : decode b_Model_programme 192 = .ok (.aload_n 0, 1) := by decide +kernel
theorem d_Model_programme_193 : decode b_Model_programme 193 = .ok (.iload 5, 2) := by decide +kernel
theorem d_Model_programme_195 : decode b_Model_programme 195 = .ok (.iconst 1, 1) := by decide +kernel
theorem d_Model_programme_196 : decode b_Model_programme 196 = .ok (.iload 7, 2) := by decide +kernel
theorem d_Model_programme_198 : decode b_Model_programme 198 = .ok (.ishl, 1) := by decide +kernel
theorem d_Model_programme_199 : decode b_Model_programme 199 = .ok (.ior, 1) := by decide +kernel
theorem d_Model_programme_200 : decode b_Model_programme 200 = .ok (.invokevirtual 162, 3) := by decide +kernel
theorem d_Model_programme_203 : decode b_Model_programme 203 = .ok (.iload_n 1, 1) := by decide +kernel
theorem d_Model_programme_204 : decode b_Model_programme 204 = .ok (.if_icmp .gt 22, 3) := by decide +kernel
theorem d_Model_programme_207 : decode b_Model_programme 207 = .ok (.aload_n 0, 1) := by decide +kernel
theorem d_Model_programme_208 : decode b_Model_programme 208 = .ok (.getfield 64, 3) := by decide +kernel
theorem d_Model_programme_211 : decode b_Model_programme 211 = .ok (.bipush 10, 2) := by decide +kernel
theorem d_Model_programme_213 : decode b_Model_programme 213 = .ok (.iload 5, 2) := by decide +kernel
theorem d_Model_programme_215 : decode b_Model_programme 215 = .ok (.iconst 1, 1) := by decide +kernel
theorem d_Model_programme_216 : decode b_Model_programme 216 = .ok (.iload 7, 2) := by decide +kernel
theorem d_Model_programme_218 : decode b_Model_programme 218 = .ok (.ishl, 1) := by decide +kernel
theorem d_Model_programme_219 : decode b_Model_programme 219 = .ok (.ior, 1) := by decide +kernel
theorem d_Model_programme_220 : decode b_Model_programme 220 = .ok (.imul, 1) := by decide +kernel
theorem d_Model_programme_221 : decode b_Model_programme 221 = .ok (.iload 7, 2) := by decide +kernel
theorem d_Model_programme_223 : decode b_Model_programme 223 = .ok (.iadd, 1) := by decide +kernel
theorem d_Model_programme_224 : decode b_Model_programme 224 = .ok (.iconst 1, 1) := by decide +kernel
theorem d_Model_programme_225 : decode b_Model_programme 225 = .ok (.bastore, 1) := by decide +kernel
theorem d_Model_programme_226 : decode b_Model_programme 226 = .ok (.iinc 7 1, 3) := by decide +kernel
theorem d_Model_programme_229 : decode b_Model_programme 229 = .ok (.goto (-60), 3) := by decide +kernel
theorem d_Model_programme_232 : decode b_Model_programme 232 = .ok (.iinc 6 1, 3) := by decide +kernel
theorem d_Model_programme_235 : decode b_Model_programme 235 = .ok (.goto (-114), 3) := by decide +kernel
theorem d_Model_programme_238 : decode b_Model_programme 238 = .ok (.iinc 5 1, 3) := by decide +kernel
theorem d_Model_programme_241 : decode b_Model_programme 241 = .ok (.goto (-129), 3) := by decide +kernel
theorem d_Model_programme_244 : decode b_Model_programme 244 = .ok (.iload_n 3, 1) := by decide +kernel
theorem d_Model_programme_245 : decode b_Model_programme 245 = .ok (.iconst 1, 1) := by decide +kernel
theorem d_Model_programme_246 : decode b_Model_programme 246 = .ok (.isub, 1) := by decide +kernel
theorem d_Model_programme_247 : decode b_Model_programme 247 = .ok (.istore 5, 2) := by decide +kernel
theorem d_Model_programme_249 : decode b_Model_programme 249 = .ok (.iload 5, 2) := by decide +kernel
theorem d_Model_programme_251 : decode b_Model_programme 251 = .ok (.ifCond .lt 179, 3) := by decide +kernel
theorem d_Model_programme_254 : decode b_Model_programme 254 = .ok (.iconst 0, 1) := by decide +kernel
theorem d_Model_programme_255 : decode b_Model_programme 255 = .ok (.istore 6, 2) := by decide +kernel
theorem d_Model_programme_257 : decode b_Model_programme 257 = .ok (.iload 6, 2) := by decide +kernel
theorem d_Model_programme_259 : decode b_Model_programme 259 = .ok (.bipush 10, 2) := by decide +kernel
theorem d_Model_programme_261 : decode b_Model_programme 261 = .ok (.if_icmp .ge 163, 3) := by decide +kernel
theorem d_Model_programme_264 : decode b_Model_programme 264 = .ok (.aload_n 0, 1) := by decide +kernel
theorem d_Model_programme_265 : decode b_Model_programme 265 = .ok (.iload 5, 2) := by decide +kernel
theorem d_Model_programme_267 : decode b_Model_programme 267 = .ok (.invokevirtual 162, 3) := by decide +kernel
theorem d_Model_programme_270 : decode b_Model_programme 270 = .ok (.iload 4, 2) := by decide +kernel
theorem d_Model_programme_272 : decode b_Model_programme 272 = .ok (.if_icmp .ne 7, 3) := by decide +kernel
theorem d_Model_programme_275 : decode b_Model_programme 275 = .ok (.iconst 0, 1) := by decide +kernel
theorem d_Model_programme_276 : decode b_Model_programme 276 = .ok (.goto 5, 3) := by decide +kernel
theorem d_Model_programme_279 : decode b_Model_programme 279 = .ok (.ldc 138, 2) := by decide +kernel
theorem d_Model_programme_281 : decode b_Model_programme 281 = .ok (.istore 7, 2) := by decide +kernel
theorem d_Model_programme_283 : decode b_Model_programme 283 = .ok (.iconst 0, 1) := by decide +kernel
theorem d_Model_programme_284 : decode b_Model_programme 284 = .ok (.istore 8, 2) := by decide +kernel
theorem d_Model_programme_286 : decode b_Model_programme 286 = .ok (.iload 8, 2) := by decide +kernel
theorem d_Model_programme_288 : decode b_Model_programme 288 = .ok (.aload_n 0, 1) := by decide +kernel
theorem d_Model_programme_289 : decode b_Model_programme 289 = .ok (.getfield 117, 3) := by decide +kernel
theorem d_Model_programme_292 : decode b_Model_programme 292 = .ok (.if_icmp .ge 96, 3) := by decide +kernel
theorem d_Model_programme_295 : decode b_Model_programme 295 = .ok (.iload 7, 2) := by decide +kernel
theorem d_Model_programme_297 : decode b_Model_programme 297 = .ok (.ifCond .eq 91, 3) := by decide +kernel
theorem d_Model_programme_300 : decode b_Model_programme 300 = .ok (.aload_n 0, 1) := by decide +kernel
theorem d_Model_programme_301 : decode b_Model_programme 301 = .ok (.iload 5, 2) := by decide +kernel
theorem d_Model_programme_303 : decode b_Model_programme 303 = .ok (.iload 6, 2) := by decide +kernel
theorem d_Model_programme_305 : decode b_Model_programme 305 = .ok (.iload 8, 2) := by decide +kernel
theorem d_Model_programme_307 : decode b_Model_programme 307 = .ok (.iload_n 2, 1) := by decide +kernel
theorem d_Model_programme_308 : decode b_Model_programme 308 = .ok (.invokevirtual 165, 3) := by decide +kernel
theorem d_Model_programme_311 : decode b_Model_programme 311 = .ok (.ifCond .eq 71, 3) := by decide +kernel
theorem d_Model_programme_314 : decode b_Model_programme 314 = .ok (.aload_n 0, 1) := by decide +kernel
theorem d_Model_programme_315 : decode b_Model_programme 315 = .ok (.iload 5, 2) := by decide +kernel
theorem d_Model_programme_317 : decode b_Model_programme 317 = .ok (.iconst 1, 1) := by decide +kernel
theorem d_Model_programme_318 : decode b_Model_programme 318 = .ok (.iload 8, 2) := by decide +kernel
theorem d_Model_programme_320 : decode b_Model_programme 320 = .ok (.ishl, 1) := by decide +kernel
theorem d_Model_programme_321 : decode b_Model_programme 321 = .ok (.ior, 1) := by decide +kernel
theorem d_Model_programme_322 : decode b_Model_programme 322 = .ok (.invokevirtual 162, 3) := by decide +kernel
theorem d_Model_programme_325 : decode b_Model_programme 325 = .ok (.iload 4, 2) := by decide +kernel
theorem d_Model_programme_327 : decode b_Model_programme 327 = .ok (.if_icmp .le 6, 3) := by decide +kernel
theorem d_Model_programme_330 : decode b_Model_programme 330 = .ok (.goto 52, 3) := by decide +kernel
theorem d_Model_programme_333 : decode b_Model_programme 333 = .ok (.aload_n 0, 1) := by decide +kernel
theorem d_Model_programme_334 : decode b_Model_programme 334 = .ok (.getfield 61, 3) := by decide +kernel
theorem d_Model_programme_337 : decode b_Model_programme 337 = .ok (.bipush 10, 2) := by decide +kernel
theorem d_Model_programme_339 : decode b_Model_programme 339 = .ok (.iload 5, 2) := by decide +kernel
theorem d_Model_programme_341 : decode b_Model_programme 341 = .ok (.iconst 1, 1) := by decide +kernel
theorem d_Model_programme_342 : decode b_Model_programme 342 = .ok (.iload 8, 2) := by decide +kernel
theorem d_Model_programme_344 : decode b_Model_programme 344 = .ok (.ishl, 1) := by decide +kernel
theorem d_Model_programme_345 : decode b_Model_programme 345 = .ok (.ior, 1) := by decide +kernel
theorem d_Model_programme_346 : decode b_Model_programme 346 = .ok (.imul, 1) := by decide +kernel
theorem d_Model_programme_347 : decode b_Model_programme 347 = .ok (.iload 8, 2) := by decide +kernel
theorem d_Model_programme_349 : decode b_Model_programme 349 = .ok (.iadd, 1) := by decide +kernel
theorem d_Model_programme_350 : decode b_Model_programme 350 = .ok (.iaload, 1) := by decide +kernel
theorem d_Model_programme_351 : decode b_Model_programme 351 = .ok (.iload 5, 2) := by decide +kernel
theorem d_Model_programme_353 : decode b_Model_programme 353 = .ok (.ifCond .ne 7, 3) := by decide +kernel
theorem d_Model_programme_356 : decode b_Model_programme 356 = .ok (.iconst 0, 1) := by decide +kernel
theorem d_Model_programme_357 : decode b_Model_programme 357 = .ok (.goto 11, 3) := by decide +kernel
theorem d_Model_programme_360 : decode b_Model_programme 360 = .ok (.aload_n 0, 1) := by decide +kernel
theorem d_Model_programme_361 : decode b_Model_programme 361 = .ok (.iload 6, 2) := by decide +kernel
theorem d_Model_programme_363 : decode b_Model_programme 363 = .ok (.iload 8, 2) := by decide +kernel
theorem d_Model_programme_365 : decode b_Model_programme 365 = .ok (.invokevirtual 169, 3) := by decide +kernel
theorem d_Model_programme_368 : decode b_Model_programme 368 = .ok (.iadd, 1) := by decide +kernel
theorem d_Model_programme_369 : decode b_Model_programme 369 = .ok (.istore 9, 2) := by decide +kernel
theorem d_Model_programme_371 : decode b_Model_programme 371 = .ok (.iload 9, 2) := by decide +kernel
theorem d_Model_programme_373 : decode b_Model_programme 373 = .ok (.iload 7, 2) := by decide +kernel
theorem d_Model_programme_375 : decode b_Model_programme 375 = .ok (.if_icmp .ge 7, 3) := by decide +kernel
theorem d_Model_programme_378 : decode b_Model_programme 378 = .ok (.iload 9, 2) := by decide +kernel
theorem d_Model_programme_380 : decode b_Model_programme 380 = .ok (.istore 7, 2) := by decide +kernel
theorem d_Model_programme_382 : decode b_Model_programme 382 = .ok (.iinc 8 1, 3) := by decide +kernel
theorem d_Model_programme_385 : decode b_Model_programme 385 = .ok (.goto (-99), 3) := by decide +kernel
theorem d_Model_programme_388 : decode b_Model_programme 388 = .ok (.aload_n 0, 1) := by decide +kernel
theorem d_Model_programme_389 : decode b_Model_programme 389 = .ok (.getfield 61, 3) := by decide +kernel
theorem d_Model_programme_392 : decode b_Model_programme 392 = .ok (.bipush 10, 2) := by decide +kernel
theorem d_Model_programme_394 : decode b_Model_programme 394 = .ok (.iload 5, 2) := by decide +kernel
theorem d_Model_programme_396 : decode b_Model_programme 396 = .ok (.imul, 1) := by decide +kernel
theorem d_Model_programme_397 : decode b_Model_programme 397 = .ok (.iload 6, 2) := by decide +kernel
theorem d_Model_programme_399 : decode b_Model_programme 399 = .ok (.iadd, 1) := by decide +kernel
theorem d_Model_programme_400 : decode b_Model_programme 400 = .ok (.aload_n 0, 1) := by decide +kernel
theorem d_Model_programme_401 : decode b_Model_programme 401 = .ok (.iload 5, 2) := by decide +kernel
theorem d_Model_programme_403 : decode b_Model_programme 403 = .ok (.invokevirtual 162, 3) := by decide +kernel
theorem d_Model_programme_406 : decode b_Model_programme 406 = .ok (.iload 4, 2) := by decide +kernel
theorem d_Model_programme_408 : decode b_Model_programme 408 = .ok (.if_icmp .ne 7, 3) := by decide +kernel
theorem d_Model_programme_411 : decode b_Model_programme 411 = .ok (.iconst 0, 1) := by decide +kernel
theorem d_Model_programme_412 : decode b_Model_programme 412 = .ok (.goto 5, 3) := by decide +kernel
theorem d_Model_programme_415 : decode b_Model_programme 415 = .ok (.iload 7, 2) := by decide +kernel
theorem d_Model_programme_417 : decode b_Model_programme 417 = .ok (.iastore, 1) := by decide +kernel
theorem d_Model_programme_418 : decode b_Model_programme 418 = .ok (.iinc 6 1, 3) := by decide +kernel
theorem d_Model_programme_421 : decode b_Model_programme 421 = .ok (.goto (-164), 3) := by decide +kernel
theorem d_Model_programme_424 : decode b_Model_programme 424 = .ok (.iinc 5 (-1), 3) := by decide +kernel
theorem d_Model_programme_427 : decode b_Model_programme 427 = .ok (.goto (-178), 3) := by decide +kernel
theorem d_Model_programme_430 : decode b_Model_programme 430 = .ok (.aload_n 0, 1) := by decide +kernel
theorem d_Model_programme_431 : decode b_Model_programme 431 = .ok (.aload_n 0, 1) := by decide +kernel
theorem d_Model_programme_432 : decode b_Model_programme 432 = .ok (.getfield 61, 3) := by decide +kernel
theorem d_Model_programme_435 : decode b_Model_programme 435 = .ok (.iconst 0, 1) := by decide +kernel
theorem d_Model_programme_436 : decode b_Model_programme 436 = .ok (.iaload, 1) := by decide +kernel
theorem d_Model_programme_437 : decode b_Model_programme 437 = .ok (.putfield 173, 3) := by decide +kernel
theorem d_Model_programme_440 : decode b_Model_programme 440 = .ok (.aload_n 0, 1) := by decide +kernel
theorem d_Model_programme_441 : decode b_Model_programme 441 = .ok (.iconst 0, 1) := by decide +kernel
theorem d_Model_programme_442 : decode b_Model_programme 442 = .ok (.putfield 176, 3) := by decide +kernel
theorem d_Model_programme_445 : decode b_Model_programme 445 = .ok (.iconst 0, 1) := by decide +kernel
theorem d_Model_programme_446 : decode b_Model_programme 446 = .ok (.istore 5, 2) := by decide +kernel
