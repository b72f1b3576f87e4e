theorem d_Seater_seatWithFewestChanges_111 : decode b_Seater_seatWithFewestChanges 111 = .ok (.getfield 77, 3) := by decide +kernel
theorem d_Seater_seatWithFewestChanges_114 : decode b_Seater_seatWithFewestChanges 114 = .ok (.iload_n 3, 1) := by decide +kernel
theorem d_Seater_seatWithFewestChanges_115 : decode b_Seater_seatWithFewestChanges 115 = .ok (.iaload, 1) := by decide +kernel
theorem d_Seater_seatWithFewestChanges_116 : decode b_Seater_seatWithFewestChanges 116 = .ok (.iconst (-1), 1) := by decide +kernel
theorem d_Seater_seatWithFewestChanges_117 : decode b_Seater_seatWithFewestChanges 117 = .ok (.if_icmp .ne 7, 3) := by decide +kernel
theorem d_Seater_seatWithFewestChanges_120 : decode b_Seater_seatWithFewestChanges 120 = .ok (.lconst 0, 1) := by decide +kernel
theorem d_Seater_seatWithFewestChanges_121 : decode b_Seater_seatWithFewestChanges 121 = .ok (.goto 6, 3) := by decide +kernel
theorem d_Seater_seatWithFewestChanges_124 : decode b_Seater_seatWithFewestChanges 124 = .ok (.ldc2_w 54, 3) := by decide +kernel
theorem d_Seater_seatWithFewestChanges_127 : decode b_Seater_seatWithFewestChanges 127 = .ok (.invokevirtual 65, 3) := by decide +kernel
theorem d_Seater_seatWithFewestChanges_130 : decode b_Seater_seatWithFewestChanges 130 = .ok (.iinc 3 1, 3) := by decide +kernel
theorem d_Seater_seatWithFewestChanges_133 : decode b_Seater_seatWithFewestChanges 133 = .ok (.goto (-131), 3) := by decide +kernel
theorem d_Seater_seatWithFewestChanges_136 : decode b_Seater_seatWithFewestChanges 136 = .ok (.aload_n 0, 1) := by decide +kernel
theorem d_Seater_seatWithFewestChanges_137 : decode b_Seater_seatWithFewestChanges 137 = .ok (.aload_n 1, 1) := by decide +kernel
theorem d_Seater_seatWithFewestChanges_138 : decode b_Seater_seatWithFewestChanges 138 = .ok (.getfield 33, 3) := by decide +kernel
theorem d_Seater_seatWithFewestChanges_141 : decode b_Seater_seatWithFewestChanges 141 = .ok (.aload_n 2, 1) := by decide +kernel
theorem d_Seater_seatWithFewestChanges_142 : decode b_Seater_seatWithFewestChanges 142 = .ok (.getfield 39, 3) := by decide +kernel
theorem d_Seater_seatWithFewestChanges_145 : decode b_Seater_seatWithFewestChanges 145 = .ok (.invokevirtual 69, 3) := by decide +kernel
theorem d_Seater_seatWithFewestChanges_148 : decode b_Seater_seatWithFewestChanges 148 = .ok (.aload_n 0, 1) := by decide +kernel
theorem d_Seater_seatWithFewestChanges_149 : decode b_Seater_seatWithFewestChanges 149 = .ok (.aload_n 1, 1) := by decide +kernel
theorem d_Seater_seatWithFewestChanges_150 : decode b_Seater_seatWithFewestChanges 150 = .ok (.aload_n 2, 1) := by decide +kernel
theorem d_Seater_seatWithFewestChanges_151 : decode b_Seater_seatWithFewestChanges 151 = .ok (.getfield 39, 3) := by decide +kernel
theorem d_Seater_seatWithFewestChanges_154 : decode b_Seater_seatWithFewestChanges 154 = .ok (.invokevirtual 73, 3) := by decide +kernel
theorem d_Seater_seatWithFewestChanges_157 : decode b_Seater_seatWithFewestChanges 157 = .ok (.ireturn, 1) := by decide +kernel
theorem d_Seater_weigh_0 : decode b_Seater_weigh 0 = .ok (.aload_n 0, 1) := by decide +kernel
theorem d_Seater_weigh_1 : decode b_Seater_weigh 1 = .ok (.getfield 13, 3) := by decide +kernel
theorem d_Seater_weigh_4 : decode b_Seater_weigh 4 = .ok (.iload_n 1, 1) := by decide +kernel
theorem d_Seater_weigh_5 : decode b_Seater_weigh 5 = .ok (.bipush 24, 2) := by decide +kernel
theorem d_Seater_weigh_7 : decode b_Seater_weigh 7 = .ok (.imul, 1) := by decide +kernel
theorem d_Seater_weigh_8 : decode b_Seater_weigh 8 = .ok (.iload_n 2, 1) := by decide +kernel
theorem d_Seater_weigh_9 : decode b_Seater_weigh 9 = .ok (.iadd, 1) := by decide +kernel
theorem d_Seater_weigh_10 : decode b_Seater_weigh 10 = .ok (.lload_n 3, 1) := by decide +kernel
theorem d_Seater_weigh_11 : decode b_Seater_weigh 11 = .ok (.lastore, 1) := by decide +kernel
theorem d_Seater_weigh_12 : decode b_Seater_weigh 12 = .ok (.return_, 1) := by decide +kernel
theorem d_Seater_weighEmpty_0 : decode b_Seater_weighEmpty 0 = .ok (.aload_n 1, 1) := by decide +kernel
theorem d_Seater_weighEmpty_1 : decode b_Seater_weighEmpty 1 = .ok (.iload_n 3, 1) := by decide +kernel
theorem d_Seater_weighEmpty_2 : decode b_Seater_weighEmpty 2 = .ok (.invokevirtual 80, 3) := by decide +kernel
theorem d_Seater_weighEmpty_5 : decode b_Seater_weighEmpty 5 = .ok (.ifCond .eq 9, 3) := by decide +kernel
theorem d_Seater_weighEmpty_8 : decode b_Seater_weighEmpty 8 = .ok (.ldc2_w 52, 3) := by decide +kernel
theorem d_Seater_weighEmpty_11 : decode b_Seater_weighEmpty 11 = .ok (.goto 15, 3) := by decide +kernel
theorem d_Seater_weighEmpty_14 : decode b_Seater_weighEmpty 14 = .ok (.lload 4, 2) := by decide +kernel
theorem d_Seater_weighEmpty_16 : decode b_Seater_weighEmpty 16 = .ok (.ldc2_w 83, 3) := by decide +kernel
theorem d_Seater_weighEmpty_19 : decode b_Seater_weighEmpty 19 = .ok (.getstatic 56, 3) := by decide +kernel
theorem d_Seater_weighEmpty_22 : decode b_Seater_weighEmpty 22 = .ok (.iload_n 3, 1) := by decide +kernel
theorem d_Seater_weighEmpty_23 : decode b_Seater_weighEmpty 23 = .ok (.laload, 1) := by decide +kernel
theorem d_Seater_weighEmpty_24 : decode b_Seater_weighEmpty 24 = .ok (.lmul, 1) := by decide +kernel
theorem d_Seater_weighEmpty_25 : decode b_Seater_weighEmpty 25 = .ok (.ladd, 1) := by decide +kernel
theorem d_Seater_weighEmpty_26 : decode b_Seater_weighEmpty 26 = .ok (.lstore 6, 2) := by decide +kernel
theorem d_Seater_weighEmpty_28 : decode b_Seater_weighEmpty 28 = .ok (.iconst 0, 1) := by decide +kernel
theorem d_Seater_weighEmpty_29 : decode b_Seater_weighEmpty 29 = .ok (.istore 8, 2) := by decide +kernel
theorem d_Seater_weighEmpty_31 : decode b_Seater_weighEmpty 31 = .ok (.iload 8, 2) := by decide +kernel
theorem d_Seater_weighEmpty_33 : decode b_Seater_weighEmpty 33 = .ok (.aload_n 1, 1) := by decide +kernel
theorem d_Seater_weighEmpty_34 : decode b_Seater_weighEmpty 34 = .ok (.getfield 33, 3) := by decide +kernel
theorem d_Seater_weighEmpty_37 : decode b_Seater_weighEmpty 37 = .ok (.if_icmp .ge 23, 3) := by decide +kernel
theorem d_Seater_weighEmpty_40 : decode b_Seater_weighEmpty 40 = .ok (.aload_n 0, 1) := by decide +kernel
theorem d_Seater_weighEmpty_41 : decode b_Seater_weighEmpty 41 = .ok (.iload_n 3, 1) := by decide +kernel
theorem d_Seater_weighEmpty_42 : decode b_Seater_weighEmpty 42 = .ok (.aload_n 2, 1) := by decide +kernel
theorem d_Seater_weighEmpty_43 : decode b_Seater_weighEmpty 43 = .ok (.getfield 39, 3) := by decide +kernel
theorem d_Seater_weighEmpty_46 : decode b_Seater_weighEmpty 46 = .ok (.iload 8, 2) := by decide +kernel
theorem d_Seater_weighEmpty_48 : decode b_Seater_weighEmpty 48 = .ok (.iadd, 1) := by decide +kernel
theorem d_Seater_weighEmpty_49 : decode b_Seater_weighEmpty 49 = .ok (.lload 6, 2) := by decide +kernel
theorem d_Seater_weighEmpty_51 : decode b_Seater_weighEmpty 51 = .ok (.invokevirtual 59, 3) := by decide +kernel
theorem d_Seater_weighEmpty_54 : decode b_Seater_weighEmpty 54 = .ok (.iinc 8 1, 3) := by decide +kernel
theorem d_Seater_weighEmpty_57 : decode b_Seater_weighEmpty 57 = .ok (.goto (-26), 3) := by decide +kernel
theorem d_Seater_weighEmpty_60 : decode b_Seater_weighEmpty 60 = .ok (.return_, 1) := by decide +kernel
theorem d_Seater_match_0 : decode b_Seater_match 0 = .ok (.aload_n 0, 1) := by decide +kernel
theorem d_Seater_match_1 : decode b_Seater_match 1 = .ok (.iload_n 2, 1) := by decide +kernel
theorem d_Seater_match_2 : decode b_Seater_match 2 = .ok (.iload_n 1, 1) := by decide +kernel
theorem d_Seater_match_3 : decode b_Seater_match 3 = .ok (.iadd, 1) := by decide +kernel
theorem d_Seater_match_4 : decode b_Seater_match 4 = .ok (.putfield 85, 3) := by decide +kernel
theorem d_Seater_match_7 : decode b_Seater_match 7 = .ok (.aload_n 0, 1) := by decide +kernel
theorem d_Seater_match_8 : decode b_Seater_match 8 = .ok (.getfield 17, 3) := by decide +kernel
theorem d_Seater_match_11 : decode b_Seater_match 11 = .ok (.lconst 0, 1) := by decide +kernel
theorem d_Seater_match_12 : decode b_Seater_match 12 = .ok (.invokestatic 88, 3) := by decide +kernel
theorem d_Seater_match_15 : decode b_Seater_match 15 = .ok (.aload_n 0, 1) := by decide +kernel
theorem d_Seater_match_16 : decode b_Seater_match 16 = .ok (.getfield 20, 3) := by decide +kernel
theorem d_Seater_match_19 : decode b_Seater_match 19 = .ok (.lconst 0, 1) := by decide +kernel
theorem d_Seater_match_20 : decode b_Seater_match 20 = .ok (.invokestatic 88, 3) := by decide +kernel
theorem d_Seater_match_23 : decode b_Seater_match 23 = .ok (.aload_n 0, 1) := by decide +kernel
theorem d_Seater_match_24 : decode b_Seater_match 24 = .ok (.getfield 26, 3) := by decide +kernel
theorem d_Seater_match_27 : decode b_Seater_match 27 = .ok (.iconst 0, 1) := by decide +kernel
theorem d_Seater_match_28 : decode b_Seater_match 28 = .ok (.invokestatic 94, 3) := by decide +kernel
theorem d_Seater_match_31 : decode b_Seater_match 31 = .ok (.iconst 1, 1) := by decide +kernel
theorem d_Seater_match_32 : decode b_Seater_match 32 = .ok (.istore_n 3, 1) := by decide +kernel
theorem d_Seater_match_33 : decode b_Seater_match 33 = .ok (.iload_n 3, 1) := by decide +kernel
theorem d_Seater_match_34 : decode b_Seater_match 34 = .ok (.iload_n 1, 1) := by decide +kernel
theorem d_Seater_match_35 : decode b_Seater_match 35 = .ok (.if_icmp .gt 14, 3) := by decide +kernel
theorem d_Seater_match_38 : decode b_Seater_match 38 = .ok (.aload_n 0, 1) := by decide +kernel
theorem d_Seater_match_39 : decode b_Seater_match 39 = .ok (.iload_n 3, 1) := by decide +kernel
theorem d_Seater_match_40 : decode b_Seater_match 40 = .ok (.invokevirtual 97, 3) := by decide +kernel
theorem d_Seater_match_43 : decode b_Seater_match 43 = .ok (.iinc 3 1, 3) := by decide +kernel
theorem d_Seater_match_46 : decode b_Seater_match 46 = .ok (.goto (-13), 3) := by decide +kernel
theorem d_Seater_match_49 : decode b_Seater_match 49 = .ok (.return_, 1) := by decide +kernel
theorem d_Seater_placeRow_0 : decode b_Seater_placeRow 0 = .ok (.aload_n 0, 1) := by decide +kernel
theorem d_Seater_placeRow_1 : decode b_Seater_placeRow 1 = .ok (.getfield 26, 3) := by decide +kernel
theorem d_Seater_placeRow_4 : decode b_Seater_placeRow 4 = .ok (.iconst 0, 1) := by decide +kernel
theorem d_Seater_placeRow_5 : decode b_Seater_placeRow 5 = .ok (.iload_n 1, 1) := by decide +kernel
theorem d_Seater_placeRow_6 : decode b_Seater_placeRow 6 = .ok (.iastore, 1) := by decide +kernel
theorem d_Seater_placeRow_7 : decode b_Seater_placeRow 7 = .ok (.aload_n 0, 1) := by decide +kernel
theorem d_Seater_placeRow_8 : decode b_Seater_placeRow 8 = .ok (.getfield 23, 3) := by decide +kernel
theorem d_Seater_placeRow_11 : decode b_Seater_placeRow 11 = .ok (.ldc2_w 101, 3) := by decide +kernel
theorem d_Seater_placeRow_14 : decode b_Seater_placeRow 14 = .ok (.invokestatic 88, 3) := by decide +kernel
theorem d_Seater_placeRow_17 : decode b_Seater_placeRow 17 = .ok (.iconst 0, 1) := by decide +kernel
theorem d_Seater_placeRow_18 : decode b_Seater_placeRow 18 = .ok (.istore_n 2, 1) := by decide +kernel
theorem d_Seater_placeRow_19 : decode b_Seater_placeRow 19 = .ok (.iconst 0, 1) := by decide +kernel
theorem d_Seater_placeRow_20 : decode b_Seater_placeRow 20 = .ok (.istore_n 3, 1) := by decide +kernel
theorem d_Seater_placeRow_21 : decode b_Seater_placeRow 21 = .ok (.iconst 0, 1) := by decide +kernel
theorem d_Seater_placeRow_22 : decode b_Seater_placeRow 22 = .ok (.istore 4, 2) := by decide +kernel
theorem d_Seater_placeRow_24 : decode b_Seater_placeRow 24 = .ok (.iload 4, 2) := by decide +kernel
theorem d_Seater_placeRow_26 : decode b_Seater_placeRow 26 = .ok (.aload_n 0, 1) := by decide +kernel
theorem d_Seater_placeRow_27 : decode b_Seater_placeRow 27 = .ok (.getfield 85, 3) := by decide +kernel
theorem d_Seater_placeRow_30 : decode b_Seater_placeRow 30 = .ok (.if_icmp .gt 31, 3) := by decide +kernel
theorem d_Seater_placeRow_33 : decode b_Seater_placeRow 33 = .ok (.aload_n 0, 1) := by decide +kernel
theorem d_Seater_placeRow_34 : decode b_Seater_placeRow 34 = .ok (.getfield 26, 3) := by decide +kernel
theorem d_Seater_placeRow_37 : decode b_Seater_placeRow 37 = .ok (.iload_n 3, 1) := by decide +kernel
theorem d_Seater_placeRow_38 : decode b_Seater_placeRow 38 = .ok (.iaload, 1) := by decide +kernel
theorem d_Seater_placeRow_39 : decode b_Seater_placeRow 39 = .ok (.ifCond .eq 22, 3) := by decide +kernel
theorem d_Seater_placeRow_42 : decode b_Seater_placeRow 42 = .ok (.iload_n 2, 1) := by decide +kernel
theorem d_Seater_placeRow_43 : decode b_Seater_placeRow 43 = .ok (.iconst 1, 1) := by decide +kernel
theorem d_Seater_placeRow_44 : decode b_Seater_placeRow 44 = .ok (.iload_n 3, 1) := by decide +kernel
theorem d_Seater_placeRow_45 : decode b_Seater_placeRow 45 = .ok (.ishl, 1) := by decide +kernel
theorem d_Seater_placeRow_46 : decode b_Seater_placeRow 46 = .ok (.ior, 1) := by decide +kernel
theorem d_Seater_placeRow_47 : decode b_Seater_placeRow 47 = .ok (.istore_n 2, 1) := by decide +kernel
theorem d_Seater_placeRow_48 : decode b_Seater_placeRow 48 = .ok (.aload_n 0, 1) := by decide +kernel
theorem d_Seater_placeRow_49 : decode b_Seater_placeRow 49 = .ok (.iload_n 3, 1) := by decide +kernel
theorem d_Seater_placeRow_50 : decode b_Seater_placeRow 50 = .ok (.iload_n 2, 1) := by decide +kernel
theorem d_Seater_placeRow_51 : decode b_Seater_placeRow 51 = .ok (.invokevirtual 103, 3) := by decide +kernel
theorem d_Seater_placeRow_54 : decode b_Seater_placeRow 54 = .ok (.istore_n 3, 1) := by decide +kernel
theorem d_Seater_placeRow_55 : decode b_Seater_placeRow 55 = .ok (.iinc 4 1, 3) := by decide +kernel
theorem d_Seater_placeRow_58 : decode b_Seater_placeRow 58 = .ok (.goto (-34), 3) := by decide +kernel
theorem d_Seater_placeRow_61 : decode b_Seater_placeRow 61 = .ok (.iconst 0, 1) := by decide +kernel
theorem d_Seater_placeRow_62 : decode b_Seater_placeRow 62 = .ok (.istore 4, 2) := by decide +kernel
theorem d_Seater_placeRow_64 : decode b_Seater_placeRow 64 = .ok (.iload 4, 2) := by decide +kernel
theorem d_Seater_placeRow_66 : decode b_Seater_placeRow 66 = .ok (.aload_n 0, 1) := by decide +kernel
theorem d_Seater_placeRow_67 : decode b_Seater_placeRow 67 = .ok (.getfield 85, 3) := by decide +kernel
theorem d_Seater_placeRow_70 : decode b_Seater_placeRow 70 = .ok (.if_icmp .gt 37, 3) := by decide +kernel
theorem d_Seater_placeRow_73 : decode b_Seater_placeRow 73 = .ok (.iload_n 3, 1) := by decide +kernel
theorem d_Seater_placeRow_74 : decode b_Seater_placeRow 74 = .ok (.ifCond .eq 33, 3) := by decide +kernel
theorem d_Seater_placeRow_77 : decode b_Seater_placeRow 77 = .ok (.aload_n 0, 1) := by decide +kernel
theorem d_Seater_placeRow_78 : decode b_Seater_placeRow 78 = .ok (.getfield 30, 3) := by decide +kernel
theorem d_Seater_placeRow_81 : decode b_Seater_placeRow 81 = .ok (.iload_n 3, 1) := by decide +kernel
theorem d_Seater_placeRow_82 : decode b_Seater_placeRow 82 = .ok (.iaload, 1) := by decide +kernel
theorem d_Seater_placeRow_83 : decode b_Seater_placeRow 83 = .ok (.istore 5, 2) := by decide +kernel
theorem d_Seater_placeRow_85 : decode b_Seater_placeRow 85 = .ok (.aload_n 0, 1) := by decide +kernel
theorem d_Seater_placeRow_86 : decode b_Seater_placeRow 86 = .ok (.getfield 26, 3) := by decide +kernel
theorem d_Seater_placeRow_89 : decode b_Seater_placeRow 89 = .ok (.iload_n 3, 1) := by decide +kernel
theorem d_Seater_placeRow_90 : decode b_Seater_placeRow 90 = .ok (.aload_n 0, 1) := by decide +kernel
theorem d_Seater_placeRow_91 : decode b_Seater_placeRow 91 = .ok (.getfield 26, 3) := by decide +kernel
theorem d_Seater_placeRow_94 : decode b_Seater_placeRow 94 = .ok (.iload 5, 2) := by decide +kernel
theorem d_Seater_placeRow_96 : decode b_Seater_placeRow 96 = .ok (.iaload, 1) := by decide +kernel
theorem d_Seater_placeRow_97 : decode b_Seater_placeRow 97 = .ok (.iastore, 1) := by decide +kernel
theorem d_Seater_placeRow_98 : decode b_Seater_placeRow 98 = .ok (.iload 5, 2) := by decide +kernel
theorem d_Seater_placeRow_100 : decode b_Seater_placeRow 100 = .ok (.istore_n 3, 1) := by decide +kernel
theorem d_Seater_placeRow_101 : decode b_Seater_placeRow 101 = .ok (.iinc 4 1, 3) := by decide +kernel
theorem d_Seater_placeRow_104 : decode b_Seater_placeRow 104 = .ok (.goto (-40), 3) := by decide +kernel
theorem d_Seater_placeRow_107 : decode b_Seater_placeRow 107 = .ok (.return_, 1) := by decide +kernel
theorem d_Seater_nearestColumn_0 : decode b_Seater_nearestColumn 0 = .ok (.aload_n 0, 1) := by decide +kernel
theorem d_Seater_nearestColumn_1 : decode b_Seater_nearestColumn 1 = .ok (.getfield 26, 3) := by decide +kernel
theorem d_Seater_nearestColumn_4 : decode b_Seater_nearestColumn 4 = .ok (.iload_n 1, 1) := by decide +kernel
theorem d_Seater_nearestColumn_5 : decode b_Seater_nearestColumn 5 = .ok (.iaload, 1) := by decide +kernel
theorem d_Seater_nearestColumn_6 : decode b_Seater_nearestColumn 6 = .ok (.istore_n 3, 1) := by decide +kernel
theorem d_Seater_nearestColumn_7 : decode b_Seater_nearestColumn 7 = .ok (.ldc2_w 101, 3) := by decide +kernel
theorem d_Seater_nearestColumn_10 : decode b_Seater_nearestColumn 10 = .ok (.lstore 4, 2) := by decide +kernel
theorem d_Seater_nearestColumn_12 : decode b_Seater_nearestColumn 12 = .ok (.iconst 0, 1) := by decide +kernel
theorem d_Seater_nearestColumn_13 : decode b_Seater_nearestColumn 13 = .ok (.istore 6, 2) := by decide +kernel
theorem d_Seater_nearestColumn_15 : decode b_Seater_nearestColumn 15 = .ok (.iconst 1, 1) := by decide +kernel
theorem d_Seater_nearestColumn_16 : decode b_Seater_nearestColumn 16 = .ok (.istore 7, 2) := by decide +kernel
theorem d_Seater_nearestColumn_18 : decode b_Seater_nearestColumn 18 = .ok (.iload 7, 2) := by decide +kernel
theorem d_Seater_nearestColumn_20 : decode b_Seater_nearestColumn 20 = .ok (.aload_n 0, 1) := by decide +kernel
theorem d_Seater_nearestColumn_21 : decode b_Seater_nearestColumn 21 = .ok (.getfield 85, 3) := by decide +kernel
theorem d_Seater_nearestColumn_24 : decode b_Seater_nearestColumn 24 = .ok (.if_icmp .gt 110, 3) := by decide +kernel
theorem d_Seater_nearestColumn_27 : decode b_Seater_nearestColumn 27 = .ok (.iload_n 2, 1) := by decide +kernel
theorem d_Seater_nearestColumn_28 : decode b_Seater_nearestColumn 28 = .ok (.iload 7, 2) := by decide +kernel
theorem d_Seater_nearestColumn_30 : decode b_Seater_nearestColumn 30 = .ok (.ishr, 1) := by decide +kernel
theorem d_Seater_nearestColumn_31 : decode b_Seater_nearestColumn 31 = .ok (.iconst 1, 1) := by decide +kernel
theorem d_Seater_nearestColumn_32 : decode b_Seater_nearestColumn 32 = .ok (.iand, 1) := by decide +kernel
theorem d_Seater_nearestColumn_33 : decode b_Seater_nearestColumn 33 = .ok (.ifCond .eq 6, 3) := by decide +kernel
theorem d_Seater_nearestColumn_36 : decode b_Seater_nearestColumn 36 = .ok (.goto 92, 3) := by decide +kernel
theorem d_Seater_nearestColumn_39 : decode b_Seater_nearestColumn 39 = .ok (.aload_n 0, 1) := by decide +kernel
theorem d_Seater_nearestColumn_40 : decode b_Seater_nearestColumn 40 = .ok (.getfield 13, 3) := by decide +kernel
theorem d_Seater_nearestColumn_43 : decode b_Seater_nearestColumn 43 = .ok (.iload_n 3, 1) := by decide +kernel
theorem d_Seater_nearestColumn_44 : decode b_Seater_nearestColumn 44 = .ok (.iconst 1, 1) := by decide +kernel
theorem d_Seater_nearestColumn_45 : decode b_Seater_nearestColumn 45 = .ok (.isub, 1) := by decide +kernel
theorem d_Seater_nearestColumn_46 : decode b_Seater_nearestColumn 46 = .ok (.bipush 24, 2) := by decide +kernel
theorem d_Seater_nearestColumn_48 : decode b_Seater_nearestColumn 48 = .ok (.imul, 1) := by decide +kernel
theorem d_Seater_nearestColumn_49 : decode b_Seater_nearestColumn 49 = .ok (.iload 7, 2) := by decide +kernel
theorem d_Seater_nearestColumn_51 : decode b_Seater_nearestColumn 51 = .ok (.iadd, 1) := by decide +kernel
theorem d_Seater_nearestColumn_52 : decode b_Seater_nearestColumn 52 = .ok (.iconst 1, 1) := by decide +kernel
theorem d_Seater_nearestColumn_53 : decode b_Seater_nearestColumn 53 = .ok (.isub, 1) := by decide +kernel
theorem d_Seater_nearestColumn_54 : decode b_Seater_nearestColumn 54 = .ok (.laload, 1) := by decide +kernel
theorem d_Seater_nearestColumn_55 : decode b_Seater_nearestColumn 55 = .ok (.aload_n 0, 1) := by decide +kernel
theorem d_Seater_nearestColumn_56 : decode b_Seater_nearestColumn 56 = .ok (.getfield 17, 3) := by decide +kernel
theorem d_Seater_nearestColumn_59 : decode b_Seater_nearestColumn 59 = .ok (.iload_n 3, 1) := by decide +kernel
theorem d_Seater_nearestColumn_60 : decode b_Seater_nearestColumn 60 = .ok (.laload, 1) := by decide +kernel
theorem d_Seater_nearestColumn_61 : decode b_Seater_nearestColumn 61 = .ok (.lsub, 1) := by decide +kernel
theorem d_Seater_nearestColumn_62 : decode b_Seater_nearestColumn 62 = .ok (.aload_n 0, 1) := by decide +kernel
theorem d_Seater_nearestColumn_63 : decode b_Seater_nearestColumn 63 = .ok (.getfield 20, 3) := by decide +kernel
theorem d_Seater_nearestColumn_66 : decode b_Seater_nearestColumn 66 = .ok (.iload 7, 2) := by decide +kernel
theorem d_Seater_nearestColumn_68 : decode b_Seater_nearestColumn 68 = .ok (.laload, 1) := by decide +kernel
theorem d_Seater_nearestColumn_69 : decode b_Seater_nearestColumn 69 = .ok (.lsub, 1) := by decide +kernel
theorem d_Seater_nearestColumn_70 : decode b_Seater_nearestColumn 70 = .ok (.lstore 8, 2) := by decide +kernel
theorem d_Seater_nearestColumn_72 : decode b_Seater_nearestColumn 72 = .ok (.lload 8, 2) := by decide +kernel
theorem d_Seater_nearestColumn_74 : decode b_Seater_nearestColumn 74 = .ok (.aload_n 0, 1) := by decide +kernel
theorem d_Seater_nearestColumn_75 : decode b_Seater_nearestColumn 75 = .ok (.getfield 23, 3) := by decide +kernel
theorem d_Seater_nearestColumn_78 : decode b_Seater_nearestColumn 78 = .ok (.iload 7, 2) := by decide +kernel
theorem d_Seater_nearestColumn_80 : decode b_Seater_nearestColumn 80 = .ok (.laload, 1) := by decide +kernel
theorem d_Seater_nearestColumn_81 : decode b_Seater_nearestColumn 81 = .ok (.lcmp, 1) := by decide +kernel
theorem d_Seater_nearestColumn_82 : decode b_Seater_nearestColumn 82 = .ok (.ifCond .ge 20, 3) := by decide +kernel
theorem d_Seater_nearestColumn_85 : decode b_Seater_nearestColumn 85 = .ok (.aload_n 0, 1) := by decide +kernel
theorem d_Seater_nearestColumn_86 : decode b_Seater_nearestColumn 86 = .ok (.getfield 23, 3) := by decide +kernel
theorem d_Seater_nearestColumn_89 : decode b_Seater_nearestColumn 89 = .ok (.iload 7, 2) := by decide +kernel
theorem d_Seater_nearestColumn_91 : decode b_Seater_nearestColumn 91 = .ok (.lload 8, 2) := by decide +kernel
theorem d_Seater_nearestColumn_93 : decode b_Seater_nearestColumn 93 = .ok (.lastore, 1) := by decide +kernel
theorem d_Seater_nearestColumn_94 : decode b_Seater_nearestColumn 94 = .ok (.aload_n 0, 1) := by decide +kernel
theorem d_Seater_nearestColumn_95 : decode b_Seater_nearestColumn 95 = .ok (.getfield 30, 3) := by decide +kernel
theorem d_Seater_nearestColumn_98 : decode b_Seater_nearestColumn 98 = .ok (.iload 7, 2) := by decide +kernel
theorem d_Seater_nearestColumn_100 : decode b_Seater_nearestColumn 100 = .ok (.iload_n 1, 1) := by decide +kernel
theorem d_Seater_nearestColumn_101 : decode b_Seater_nearestColumn 101 = .ok (.iastore, 1) := by decide +kernel
theorem d_Seater_nearestColumn_102 : decode b_Seater_nearestColumn 102 = .ok (.aload_n 0, 1) := by decide +kernel
theorem d_Seater_nearestColumn_103 : decode b_Seater_nearestColumn 103 = .ok (.getfield 23, 3) := by decide +kernel
theorem d_Seater_nearestColumn_106 : decode b_Seater_nearestColumn 106 = .ok (.iload 7, 2) := by decide +kernel
theorem d_Seater_nearestColumn_108 : decode b_Seater_nearestColumn 108 = .ok (.laload, 1) := by decide +kernel
theorem d_Seater_nearestColumn_109 : decode b_Seater_nearestColumn 109 = .ok (.lload 4, 2) := by decide +kernel
theorem d_Seater_nearestColumn_111 : decode b_Seater_nearestColumn 111 = .ok (.lcmp, 1) := by decide +kernel
theorem d_Seater_nearestColumn_112 : decode b_Seater_nearestColumn 112 = .ok (.ifCond .ge 16, 3) := by decide +kernel
theorem d_Seater_nearestColumn_115 : decode b_Seater_nearestColumn 115 = .ok (.aload_n 0, 1) := by decide +kernel
theorem d_Seater_nearestColumn_116 : decode b_Seater_nearestColumn 116 = .ok (.getfield 23, 3) := by decide +kernel
theorem d_Seater_nearestColumn_119 : decode b_Seater_nearestColumn 119 = .ok (.iload 7, 2) := by decide +kernel
theorem d_Seater_nearestColumn_121 : decode b_Seater_nearestColumn 121 = .ok (.laload, 1) := by decide +kernel
theorem d_Seater_nearestColumn_122 : decode b_Seater_nearestColumn 122 = .ok (.lstore 4, 2) := by decide +kernel
theorem d_Seater_nearestColumn_124 : decode b_Seater_nearestColumn 124 = .ok (.iload 7, 2) := by decide +kernel
theorem d_Seater_nearestColumn_126 : decode b_Seater_nearestColumn 126 = .ok (.istore 6, 2) := by decide +kernel
theorem d_Seater_nearestColumn_128 : decode b_Seater_nearestColumn 128 = .ok (.iinc 7 1, 3) := by decide +kernel
theorem d_Seater_nearestColumn_131 : decode b_Seater_nearestColumn 131 = .ok (.goto (-113), 3) := by decide +kernel
theorem d_Seater_nearestColumn_134 : decode b_Seater_nearestColumn 134 = .ok (.aload_n 0, 1) := by decide +kernel
theorem d_Seater_nearestColumn_135 : decode b_Seater_nearestColumn 135 = .ok (.iload_n 2, 1) := by decide +kernel
theorem d_Seater_nearestColumn_136 : decode b_Seater_nearestColumn 136 = .ok (.lload 4, 2) := by decide +kernel
theorem d_Seater_nearestColumn_138 : decode b_Seater_nearestColumn 138 = .ok (.invokevirtual 107, 3) := by decide +kernel
theorem d_Seater_nearestColumn_141 : decode b_Seater_nearestColumn 141 = .ok (.iload 6, 2) := by decide +kernel
theorem d_Seater_nearestColumn_143 : decode b_Seater_nearestColumn 143 = .ok (.ireturn, 1) := by decide +kernel
theorem d_Seater_shiftPrices_0 : decode b_Seater_shiftPrices 0 = .ok (.iconst 0, 1) := by decide +kernel
theorem d_Seater_shiftPrices_1 : decode b_Seater_shiftPrices 1 = .ok (.istore 4, 2) := by decide +kernel
theorem d_Seater_shiftPrices_3 : decode b_Seater_shiftPrices 3 = .ok (.iload 4, 2) := by decide +kernel
theorem d_Seater_shiftPrices_5 : decode b_Seater_shiftPrices 5 = .ok (.aload_n 0, 1) := by decide +kernel
theorem d_Seater_shiftPrices_6 : decode b_Seater_shiftPrices 6 = .ok (.getfield 85, 3) := by decide +kernel
theorem d_Seater_shiftPrices_9 : decode b_Seater_shiftPrices 9 = .ok (.if_icmp .gt 59, 3) := by decide +kernel
theorem d_Seater_shiftPrices_12 : decode b_Seater_shiftPrices 12 = .ok (.iload_n 1, 1) := by decide +kernel
theorem d_Seater_shiftPrices_13 : decode b_Seater_shiftPrices 13 = .ok (.iload 4, 2) := by decide +kernel
theorem d_Seater_shiftPrices_15 : decode b_Seater_shiftPrices 15 = .ok (.ishr, 1) := by decide +kernel
theorem d_Seater_shiftPrices_16 : decode b_Seater_shiftPrices 16 = .ok (.iconst 1, 1) := by decide +kernel
theorem d_Seater_shiftPrices_17 : decode b_Seater_shiftPrices 17 = .ok (.iand, 1) := by decide +kernel
theorem d_Seater_shiftPrices_18 : decode b_Seater_shiftPrices 18 = .ok (.ifCond .eq 33, 3) := by decide +kernel
theorem d_Seater_shiftPrices_21 : decode b_Seater_shiftPrices 21 = .ok (.aload_n 0, 1) := by decide +kernel
theorem d_Seater_shiftPrices_22 : decode b_Seater_shiftPrices 22 = .ok (.getfield 17, 3) := by decide +kernel
theorem d_Seater_shiftPrices_25 : decode b_Seater_shiftPrices 25 = .ok (.aload_n 0, 1) := by decide +kernel
theorem d_Seater_shiftPrices_26 : decode b_Seater_shiftPrices 26 = .ok (.getfield 26, 3) := by decide +kernel
theorem d_Seater_shiftPrices_29 : decode b_Seater_shiftPrices 29 = .ok (.iload 4, 2) := by decide +kernel
theorem d_Seater_shiftPrices_31 : decode b_Seater_shiftPrices 31 = .ok (.iaload, 1) := by decide +kernel
theorem d_Seater_shiftPrices_32 : decode b_Seater_shiftPrices 32 = .ok (.dup2, 1) := by decide +kernel
theorem d_Seater_shiftPrices_33 : decode b_Seater_shiftPrices 33 = .ok (.laload, 1) := by decide +kernel
theorem d_Seater_shiftPrices_34 : decode b_Seater_shiftPrices 34 = .ok (.lload_n 2, 1) := by decide +kernel
theorem d_Seater_shiftPrices_35 : decode b_Seater_shiftPrices 35 = .ok (.ladd, 1) := by decide +kernel
theorem d_Seater_shiftPrices_36 : decode b_Seater_shiftPrices 36 = .ok (.lastore, 1) := by decide +kernel
theorem d_Seater_shiftPrices_37 : decode b_Seater_shiftPrices 37 = .ok (.aload_n 0, 1) := by decide +kernel
theorem d_Seater_shiftPrices_38 : decode b_Seater_shiftPrices 38 = .ok (.getfield 20, 3) := by decide +kernel
theorem d_Seater_shiftPrices_41 : decode b_Seater_shiftPrices 41 = .ok (.iload 4, 2) := by decide +kernel
theorem d_Seater_shiftPrices_43 : decode b_Seater_shiftPrices 43 = .ok (.dup2, 1) := by decide +kernel
theorem d_Seater_shiftPrices_44 : decode b_Seater_shiftPrices 44 = .ok (.laload, 1) := by decide +kernel
theorem d_Seater_shiftPrices_45 : decode b_Seater_shiftPrices 45 = .ok (.lload_n 2, 1) := by decide +kernel
theorem d_Seater_shiftPrices_46 : decode b_Seater_shiftPrices 46 = .ok (.lsub, 1) := by decide +kernel
theorem d_Seater_shiftPrices_47 : decode b_Seater_shiftPrices 47 = .ok (.lastore, 1) := by decide +kernel
theorem d_Seater_shiftPrices_48 : decode b_Seater_shiftPrices 48 = .ok (.goto 14, 3) := by decide +kernel
theorem d_Seater_shiftPrices_51 : decode b_Seater_shiftPrices 51 = .ok (.aload_n 0, 1) := by decide +kernel
theorem d_Seater_shiftPrices_52 : decode b_Seater_shiftPrices 52 = .ok (.getfield 23, 3) := by decide +kernel
theorem d_Seater_shiftPrices_55 : decode b_Seater_shiftPrices 55 = .ok (.iload 4, 2) := by decide +kernel
theorem d_Seater_shiftPrices_57 : decode b_Seater_shiftPrices 57 = .ok (.dup2, 1) := by decide +kernel
theorem d_Seater_shiftPrices_58 : decode b_Seater_shiftPrices 58 = .ok (.laload, 1) := by decide +kernel
theorem d_Seater_shiftPrices_59 : decode b_Seater_shiftPrices 59 = .ok (.lload_n 2, 1) := by decide +kernel
theorem d_Seater_shiftPrices_60 : decode b_Seater_shiftPrices 60 = .ok (.lsub, 1) := by decide +kernel
theorem d_Seater_shiftPrices_61 : decode b_Seater_shiftPrices 61 = .ok (.lastore, 1) := by decide +kernel
theorem d_Seater_shiftPrices_62 : decode b_Seater_shiftPrices 62 = .ok (.iinc 4 1, 3) := by decide +kernel
theorem d_Seater_shiftPrices_65 : decode b_Seater_shiftPrices 65 = .ok (.goto (-62), 3) := by decide +kernel
theorem d_Seater_shiftPrices_68 : decode b_Seater_shiftPrices 68 = .ok (.return_, 1) := by decide +kernel
theorem d_Seater_takeChairs_0 : decode b_Seater_takeChairs 0 = .ok (.iconst 0, 1) := by decide +kernel
theorem d_Seater_takeChairs_1 : decode b_Seater_takeChairs 1 = .ok (.istore_n 3, 1) := by decide +kernel
theorem d_Seater_takeChairs_2 : decode b_Seater_takeChairs 2 = .ok (.iconst 1, 1) := by decide +kernel
theorem d_Seater_takeChairs_3 : decode b_Seater_takeChairs 3 = .ok (.istore 4, 2) := by decide +kernel
theorem d_Seater_takeChairs_5 : decode b_Seater_takeChairs 5 = .ok (.iload 4, 2) := by decide +kernel
theorem d_Seater_takeChairs_7 : decode b_Seater_takeChairs 7 = .ok (.aload_n 0, 1) := by decide +kernel
theorem d_Seater_takeChairs_8 : decode b_Seater_takeChairs 8 = .ok (.getfield 85, 3) := by decide +kernel
theorem d_Seater_takeChairs_11 : decode b_Seater_takeChairs 11 = .ok (.if_icmp .gt 72, 3) := by decide +kernel
theorem d_Seater_takeChairs_14 : decode b_Seater_takeChairs 14 = .ok (.aload_n 0, 1) := by decide +kernel
theorem d_Seater_takeChairs_15 : decode b_Seater_takeChairs 15 = .ok (.getfield 26, 3) := by decide +kernel
theorem d_Seater_takeChairs_18 : decode b_Seater_takeChairs 18 = .ok (.iload 4, 2) := by decide +kernel
theorem d_Seater_takeChairs_20 : decode b_Seater_takeChairs 20 = .ok (.iaload, 1) := by decide +kernel
theorem d_Seater_takeChairs_21 : decode b_Seater_takeChairs 21 = .ok (.iconst 1, 1) := by decide +kernel
theorem d_Seater_takeChairs_22 : decode b_Seater_takeChairs 22 = .ok (.isub, 1) := by decide +kernel
theorem d_Seater_takeChairs_23 : decode b_Seater_takeChairs 23 = .ok (.istore 5, 2) := by decide +kernel
theorem d_Seater_takeChairs_25 : decode b_Seater_takeChairs 25 = .ok (.aload_n 1, 1) := by decide +kernel
theorem d_Seater_takeChairs_26 : decode b_Seater_takeChairs 26 = .ok (.iload 5, 2) := by decide +kernel
theorem d_Seater_takeChairs_28 : decode b_Seater_takeChairs 28 = .ok (.invokevirtual 111, 3) := by decide +kernel
theorem d_Seater_takeChairs_31 : decode b_Seater_takeChairs 31 = .ok (.ifCond .ne 6, 3) := by decide +kernel
theorem d_Seater_takeChairs_34 : decode b_Seater_takeChairs 34 = .ok (.goto 43, 3) := by decide +kernel
theorem d_Seater_takeChairs_37 : decode b_Seater_takeChairs 37 = .ok (.iload 4, 2) := by decide +kernel
theorem d_Seater_takeChairs_39 : decode b_Seater_takeChairs 39 = .ok (.iload_n 2, 1) := by decide +kernel
theorem d_Seater_takeChairs_40 : decode b_Seater_takeChairs 40 = .ok (.if_icmp .gt 10, 3) := by decide +kernel
theorem d_Seater_takeChairs_43 : decode b_Seater_takeChairs 43 = .ok (.iload 4, 2) := by decide +kernel
theorem d_Seater_takeChairs_45 : decode b_Seater_takeChairs 45 = .ok (.iconst 1, 1) := by decide +kernel
theorem d_Seater_takeChairs_46 : decode b_Seater_takeChairs 46 = .ok (.isub, 1) := by decide +kernel
theorem d_Seater_takeChairs_47 : decode b_Seater_takeChairs 47 = .ok (.goto 4, 3) := by decide +kernel
theorem d_Seater_takeChairs_50 : decode b_Seater_takeChairs 50 = .ok (.iconst (-1), 1) := by decide +kernel
theorem d_Seater_takeChairs_51 : decode b_Seater_takeChairs 51 = .ok (.istore 6, 2) := by decide +kernel
theorem d_Seater_takeChairs_53 : decode b_Seater_takeChairs 53 = .ok (.aload_n 1, 1) := by decide +kernel
theorem d_Seater_takeChairs_54 : decode b_Seater_takeChairs 54 = .ok (.getfield 77, 3) := by decide +kernel
theorem d_Seater_takeChairs_57 : decode b_Seater_takeChairs 57 = .ok (.iload 5, 2) := by decide +kernel
theorem d_Seater_takeChairs_59 : decode b_Seater_takeChairs 59 = .ok (.iaload, 1) := by decide +kernel
theorem d_Seater_takeChairs_60 : decode b_Seater_takeChairs 60 = .ok (.iload 6, 2) := by decide +kernel
theorem d_Seater_takeChairs_62 : decode b_Seater_takeChairs 62 = .ok (.if_icmp .eq 15, 3) := by decide +kernel
theorem d_Seater_takeChairs_65 : decode b_Seater_takeChairs 65 = .ok (.aload_n 1, 1) := by decide +kernel
theorem d_Seater_takeChairs_66 : decode b_Seater_takeChairs 66 = .ok (.getfield 77, 3) := by decide +kernel
theorem d_Seater_takeChairs_69 : decode b_Seater_takeChairs 69 = .ok (.iload 5, 2) := by decide +kernel
theorem d_Seater_takeChairs_71 : decode b_Seater_takeChairs 71 = .ok (.iload 6, 2) := by decide +kernel
theorem d_Seater_takeChairs_73 : decode b_Seater_takeChairs 73 = .ok (.iastore, 1) := by decide +kernel
theorem d_Seater_takeChairs_74 : decode b_Seater_takeChairs 74 = .ok (.iinc 3 1, 3) := by decide +kernel
theorem d_Seater_takeChairs_77 : decode b_Seater_takeChairs 77 = .ok (.iinc 4 1, 3) := by decide +kernel
theorem d_Seater_takeChairs_80 : decode b_Seater_takeChairs 80 = .ok (.goto (-75), 3) := by decide +kernel
theorem d_Seater_takeChairs_83 : decode b_Seater_takeChairs 83 = .ok (.iload_n 3, 1) := by decide +kernel
theorem d_Seater_takeChairs_84 : decode b_Seater_takeChairs 84 = .ok (.ireturn, 1) := by decide +kernel
theorem d_Tape_init_0 : decode b_Tape_init 0 = .ok (.aload_n 0, 1) := by decide +kernel
theorem d_Tape_init_1 : decode b_Tape_init 1 = .ok (.invokespecial 3, 3) := by decide +kernel
theorem d_Tape_init_4 : decode b_Tape_init 4 = .ok (.aload_n 0, 1) := by decide +kernel
theorem d_Tape_init_5 : decode b_Tape_init 5 = .ok (.sipush 800, 3) := by decide +kernel
theorem d_Tape_init_8 : decode b_Tape_init 8 = .ok (.newarray .int, 2) := by decide +kernel
theorem d_Tape_init_10 : decode b_Tape_init 10 = .ok (.putfield 9, 3) := by decide +kernel
theorem d_Tape_init_13 : decode b_Tape_init 13 = .ok (.aload_n 0, 1) := by decide +kernel
theorem d_Tape_init_14 : decode b_Tape_init 14 = .ok (.bipush (-4), 2) := by decide +kernel
theorem d_Tape_init_16 : decode b_Tape_init 16 = .ok (.putfield 15, 3) := by decide +kernel
theorem d_Tape_init_19 : decode b_Tape_init 19 = .ok (.aload_n 0, 1) := by decide +kernel
theorem d_Tape_init_20 : decode b_Tape_init 20 = .ok (.iconst (-1), 1) := by decide +kernel
theorem d_Tape_init_21 : decode b_Tape_init 21 = .ok (.putfield 19, 3) := by decide +kernel
theorem d_Tape_init_24 : decode b_Tape_init 24 = .ok (.return_, 1) := by decide +kernel
theorem d_Tape_hasRoom_0 : decode b_Tape_hasRoom 0 = .ok (.aload_n 0, 1) := by decide +kernel
theorem d_Tape_hasRoom_1 : decode b_Tape_hasRoom 1 = .ok (.getfield 22, 3) := by decide +kernel
theorem d_Tape_hasRoom_4 : decode b_Tape_hasRoom 4 = .ok (.bipush 20, 2) := by decide +kernel
theorem d_Tape_hasRoom_6 : decode b_Tape_hasRoom 6 = .ok (.iadd, 1) := by decide +kernel
theorem d_Tape_hasRoom_7 : decode b_Tape_hasRoom 7 = .ok (.sipush 800, 3) := by decide +kernel
theorem d_Tape_hasRoom_10 : decode b_Tape_hasRoom 10 = .ok (.if_icmp .gt 7, 3) := by decide +kernel
theorem d_Tape_hasRoom_13 : decode b_Tape_hasRoom 13 = .ok (.iconst 1, 1) := by decide +kernel
theorem d_Tape_hasRoom_14 : decode b_Tape_hasRoom 14 = .ok (.goto 4, 3) := by decide +kernel
theorem d_Tape_hasRoom_17 : decode b_Tape_hasRoom 17 = .ok (.iconst 0, 1) := by decide +kernel
theorem d_Tape_hasRoom_18 : decode b_Tape_hasRoom 18 = .ok (.ireturn, 1) := by decide +kernel
theorem d_Tape_append_0 : decode b_Tape_append 0 = .ok (.bipush 24, 2) := by decide +kernel
theorem d_Tape_append_2 : decode b_Tape_append 2 = .ok (.istore_n 2, 1) := by decide +kernel
theorem d_Tape_append_3 : decode b_Tape_append 3 = .ok (.iload_n 2, 1) := by decide +kernel
theorem d_Tape_append_4 : decode b_Tape_append 4 = .ok (.ifCond .lt 45, 3) := by decide +kernel
theorem d_Tape_append_7 : decode b_Tape_append 7 = .ok (.aload_n 0, 1) := by decide +kernel
theorem d_Tape_append_8 : decode b_Tape_append 8 = .ok (.getfield 22, 3) := by decide +kernel
theorem d_Tape_append_11 : decode b_Tape_append 11 = .ok (.sipush 800, 3) := by decide +kernel
theorem d_Tape_append_14 : decode b_Tape_append 14 = .ok (.if_icmp .ge 35, 3) := by decide +kernel
theorem d_Tape_append_17 : decode b_Tape_append 17 = .ok (.aload_n 0, 1) := by decide +kernel
theorem d_Tape_append_18 : decode b_Tape_append 18 = .ok (.getfield 9, 3) := by decide +kernel
theorem d_Tape_append_21 : decode b_Tape_append 21 = .ok (.aload_n 0, 1) := by decide +kernel
theorem d_Tape_append_22 : decode b_Tape_append 22 = .ok (.getfield 22, 3) := by decide +kernel
theorem d_Tape_append_25 : decode b_Tape_append 25 = .ok (.iload_n 1, 1) := by decide +kernel
theorem d_Tape_append_26 : decode b_Tape_append 26 = .ok (.iload_n 2, 1) := by decide +kernel
theorem d_Tape_append_27 : decode b_Tape_append 27 = .ok (.iushr, 1) := by decide +kernel
theorem d_Tape_append_28 : decode b_Tape_append 28 = .ok (.sipush 255, 3) := by decide +kernel
theorem d_Tape_append_31 : decode b_Tape_append 31 = .ok (.iand, 1) := by decide +kernel
theorem d_Tape_append_32 : decode b_Tape_append 32 = .ok (.iastore, 1) := by decide +kernel
theorem d_Tape_append_33 : decode b_Tape_append 33 = .ok (.aload_n 0, 1) := by decide +kernel
theorem d_Tape_append_34 : decode b_Tape_append 34 = .ok (.dup, 1) := by decide +kernel
theorem d_Tape_append_35 : decode b_Tape_append 35 = .ok (.getfield 22, 3) := by decide +kernel
theorem d_Tape_append_38 : decode b_Tape_append 38 = .ok (.iconst 1, 1) := by decide +kernel
theorem d_Tape_append_39 : decode b_Tape_append 39 = .ok (.iadd, 1) := by decide +kernel
theorem d_Tape_append_40 : decode b_Tape_append 40 = .ok (.putfield 22, 3) := by decide +kernel
theorem d_Tape_append_43 : decode b_Tape_append 43 = .ok (.iinc 2 (-8), 3) := by decide +kernel
theorem d_Tape_append_46 : decode b_Tape_append 46 = .ok (.goto (-43), 3) := by decide +kernel
theorem d_Tape_append_49 : decode b_Tape_append 49 = .ok (.return_, 1) := by decide +kernel
theorem d_Tape_begin_0 : decode b_Tape_begin 0 = .ok (.aload_n 0, 1) := by decide +kernel
theorem d_Tape_begin_1 : decode b_Tape_begin 1 = .ok (.iload_n 1, 1) := by decide +kernel
theorem d_Tape_begin_2 : decode b_Tape_begin 2 = .ok (.putfield 25, 3) := by decide +kernel
theorem d_Tape_begin_5 : decode b_Tape_begin 5 = .ok (.aload_n 0, 1) := by decide +kernel
theorem d_Tape_begin_6 : decode b_Tape_begin 6 = .ok (.iconst 0, 1) := by decide +kernel
theorem d_Tape_begin_7 : decode b_Tape_begin 7 = .ok (.putfield 28, 3) := by decide +kernel
theorem d_Tape_begin_10 : decode b_Tape_begin 10 = .ok (.aload_n 0, 1) := by decide +kernel
theorem d_Tape_begin_11 : decode b_Tape_begin 11 = .ok (.iconst 0, 1) := by decide +kernel
theorem d_Tape_begin_12 : decode b_Tape_begin 12 = .ok (.putfield 31, 3) := by decide +kernel
theorem d_Tape_begin_15 : decode b_Tape_begin 15 = .ok (.aload_n 0, 1) := by decide +kernel
theorem d_Tape_begin_16 : decode b_Tape_begin 16 = .ok (.iconst 0, 1) := by decide +kernel
theorem d_Tape_begin_17 : decode b_Tape_begin 17 = .ok (.putfield 34, 3) := by decide +kernel
theorem d_Tape_begin_20 : decode b_Tape_begin 20 = .ok (.aload_n 0, 1) := by decide +kernel
theorem d_Tape_begin_21 : decode b_Tape_begin 21 = .ok (.iconst (-1), 1) := by decide +kernel
theorem d_Tape_begin_22 : decode b_Tape_begin 22 = .ok (.putfield 19, 3) := by decide +kernel
theorem d_Tape_begin_25 : decode b_Tape_begin 25 = .ok (.aload_n 0, 1) := by decide +kernel
theorem d_Tape_begin_26 : decode b_Tape_begin 26 = .ok (.invokevirtual 37, 3) := by decide +kernel
theorem d_Tape_begin_29 : decode b_Tape_begin 29 = .ok (.return_, 1) := by decide +kernel
theorem d_Tape_finish_0 : decode b_Tape_finish 0 = .ok (.aload_n 0, 1) := by decide +kernel
theorem d_Tape_finish_1 : decode b_Tape_finish 1 = .ok (.getfield 15, 3) := by decide +kernel
theorem d_Tape_finish_4 : decode b_Tape_finish 4 = .ok (.iconst (-1), 1) := by decide +kernel
theorem d_Tape_finish_5 : decode b_Tape_finish 5 = .ok (.if_icmp .eq 8, 3) := by decide +kernel
theorem d_Tape_finish_8 : decode b_Tape_finish 8 = .ok (.aload_n 0, 1) := by decide +kernel
theorem d_Tape_finish_9 : decode b_Tape_finish 9 = .ok (.iconst 1, 1) := by decide +kernel
theorem d_Tape_finish_10 : decode b_Tape_finish 10 = .ok (.invokevirtual 40, 3) := by decide +kernel
theorem d_Tape_finish_13 : decode b_Tape_finish 13 = .ok (.aload_n 0, 1) := by decide +kernel
theorem d_Tape_finish_14 : decode b_Tape_finish 14 = .ok (.iconst 0, 1) := by decide +kernel
theorem d_Tape_finish_15 : decode b_Tape_finish 15 = .ok (.putfield 22, 3) := by decide +kernel
theorem d_Tape_finish_18 : decode b_Tape_finish 18 = .ok (.aload_n 0, 1) := by decide +kernel
theorem d_Tape_finish_19 : decode b_Tape_finish 19 = .ok (.getfield 34, 3) := by decide +kernel
theorem d_Tape_finish_22 : decode b_Tape_finish 22 = .ok (.ifCond .ne 7, 3) := by decide +kernel
theorem d_Tape_finish_25 : decode b_Tape_finish 25 = .ok (.iconst 1, 1) := by decide +kernel
theorem d_Tape_finish_26 : decode b_Tape_finish 26 = .ok (.goto 4, 3) := by decide +kernel
theorem d_Tape_finish_29 : decode b_Tape_finish 29 = .ok (.iconst 0, 1) := by decide +kernel
theorem d_Tape_finish_30 : decode b_Tape_finish 30 = .ok (.ireturn, 1) := by decide +kernel
theorem d_Tape_fail_0 : decode b_Tape_fail 0 = .ok (.aload_n 0, 1) := by decide +kernel
theorem d_Tape_fail_1 : decode b_Tape_fail 1 = .ok (.getfield 34, 3) := by decide +kernel
theorem d_Tape_fail_4 : decode b_Tape_fail 4 = .ok (.ifCond .ne 16, 3) := by decide +kernel
theorem d_Tape_fail_7 : decode b_Tape_fail 7 = .ok (.aload_n 0, 1) := by decide +kernel
theorem d_Tape_fail_8 : decode b_Tape_fail 8 = .ok (.iload_n 1, 1) := by decide +kernel
theorem d_Tape_fail_9 : decode b_Tape_fail 9 = .ok (.putfield 34, 3) := by decide +kernel
theorem d_Tape_fail_12 : decode b_Tape_fail 12 = .ok (.aload_n 0, 1) := by decide +kernel
theorem d_Tape_fail_13 : decode b_Tape_fail 13 = .ok (.aload_n 0, 1) := by decide +kernel
theorem d_Tape_fail_14 : decode b_Tape_fail 14 = .ok (.getfield 44, 3) := by decide +kernel
theorem d_Tape_fail_17 : decode b_Tape_fail 17 = .ok (.putfield 19, 3) := by decide +kernel
theorem d_Tape_fail_20 : decode b_Tape_fail 20 = .ok (.aload_n 0, 1) := by decide +kernel
theorem d_Tape_fail_21 : decode b_Tape_fail 21 = .ok (.bipush (-4), 2) := by decide +kernel
theorem d_Tape_fail_23 : decode b_Tape_fail 23 = .ok (.putfield 15, 3) := by decide +kernel
theorem d_Tape_fail_26 : decode b_Tape_fail 26 = .ok (.return_, 1) := by decide +kernel
theorem d_Tape_advance_0 : decode b_Tape_advance 0 = .ok (.aload_n 0, 1) := by decide +kernel
theorem d_Tape_advance_1 : decode b_Tape_advance 1 = .ok (.getfield 34, 3) := by decide +kernel
theorem d_Tape_advance_4 : decode b_Tape_advance 4 = .ok (.ifCond .eq 4, 3) := by decide +kernel
theorem d_Tape_advance_7 : decode b_Tape_advance 7 = .ok (.return_, 1) := by decide +kernel
theorem d_Tape_advance_8 : decode b_Tape_advance 8 = .ok (.aload_n 0, 1) := by decide +kernel
theorem d_Tape_advance_9 : decode b_Tape_advance 9 = .ok (.getfield 28, 3) := by decide +kernel
theorem d_Tape_advance_12 : decode b_Tape_advance 12 = .ok (.aload_n 0, 1) := by decide +kernel
theorem d_Tape_advance_13 : decode b_Tape_advance 13 = .ok (.getfield 22, 3) := by decide +kernel
theorem d_Tape_advance_16 : decode b_Tape_advance 16 = .ok (.if_icmp .ge 44, 3) := by decide +kernel
theorem d_Tape_advance_19 : decode b_Tape_advance 19 = .ok (.aload_n 0, 1) := by decide +kernel
theorem d_Tape_advance_20 : decode b_Tape_advance 20 = .ok (.getfield 9, 3) := by decide +kernel
theorem d_Tape_advance_23 : decode b_Tape_advance 23 = .ok (.aload_n 0, 1) := by decide +kernel
theorem d_Tape_advance_24 : decode b_Tape_advance 24 = .ok (.getfield 28, 3) := by decide +kernel
theorem d_Tape_advance_27 : decode b_Tape_advance 27 = .ok (.iaload, 1) := by decide +kernel
theorem d_Tape_advance_28 : decode b_Tape_advance 28 = .ok (.bipush 32, 2) := by decide +kernel
theorem d_Tape_advance_30 : decode b_Tape_advance 30 = .ok (.if_icmp .eq 17, 3) := by decide +kernel
theorem d_Tape_advance_33 : decode b_Tape_advance 33 = .ok (.aload_n 0, 1) := by decide +kernel
theorem d_Tape_advance_34 : decode b_Tape_advance 34 = .ok (.getfield 9, 3) := by decide +kernel
theorem d_Tape_advance_37 : decode b_Tape_advance 37 = .ok (.aload_n 0, 1) := by decide +kernel
theorem d_Tape_advance_38 : decode b_Tape_advance 38 = .ok (.getfield 28, 3) := by decide +kernel
theorem d_Tape_advance_41 : decode b_Tape_advance 41 = .ok (.iaload, 1) := by decide +kernel
theorem d_Tape_advance_42 : decode b_Tape_advance 42 = .ok (.bipush 10, 2) := by decide +kernel
theorem d_Tape_advance_44 : decode b_Tape_advance 44 = .ok (.if_icmp .ne 16, 3) := by decide +kernel
theorem d_Tape_advance_47 : decode b_Tape_advance 47 = .ok (.aload_n 0, 1) := by decide +kernel
theorem d_Tape_advance_48 : decode b_Tape_advance 48 = .ok (.dup, 1) := by decide +kernel
theorem d_Tape_advance_49 : decode b_Tape_advance 49 = .ok (.getfield 28, 3) := by decide +kernel
theorem d_Tape_advance_52 : decode b_Tape_advance 52 = .ok (.iconst 1, 1) := by decide +kernel
theorem d_Tape_advance_53 : decode b_Tape_advance 53 = .ok (.iadd, 1) := by decide +kernel
theorem d_Tape_advance_54 : decode b_Tape_advance 54 = .ok (.putfield 28, 3) := by decide +kernel
theorem d_Tape_advance_57 : decode b_Tape_advance 57 = .ok (.goto (-49), 3) := by decide +kernel
theorem d_Tape_advance_60 : decode b_Tape_advance 60 = .ok (.aload_n 0, 1) := by decide +kernel
theorem d_Tape_advance_61 : decode b_Tape_advance 61 = .ok (.aload_n 0, 1) := by decide +kernel
theorem d_Tape_advance_62 : decode b_Tape_advance 62 = .ok (.getfield 28, 3) := by decide +kernel
theorem d_Tape_advance_65 : decode b_Tape_advance 65 = .ok (.putfield 44, 3) := by decide +kernel
theorem d_Tape_advance_68 : decode b_Tape_advance 68 = .ok (.aload_n 0, 1) := by decide +kernel
theorem d_Tape_advance_69 : decode b_Tape_advance 69 = .ok (.iconst 0, 1) := by decide +kernel
theorem d_Tape_advance_70 : decode b_Tape_advance 70 = .ok (.putfield 47, 3) := by decide +kernel
theorem d_Tape_advance_73 : decode b_Tape_advance 73 = .ok (.aload_n 0, 1) := by decide +kernel
theorem d_Tape_advance_74 : decode b_Tape_advance 74 = .ok (.aload_n 0, 1) := by decide +kernel
theorem d_Tape_advance_75 : decode b_Tape_advance 75 = .ok (.getfield 28, 3) := by decide +kernel
theorem d_Tape_advance_78 : decode b_Tape_advance 78 = .ok (.aload_n 0, 1) := by decide +kernel
theorem d_Tape_advance_79 : decode b_Tape_advance 79 = .ok (.getfield 22, 3) := by decide +kernel
theorem d_Tape_advance_82 : decode b_Tape_advance 82 = .ok (.if_icmp .ge 15, 3) := by decide +kernel
theorem d_Tape_advance_85 : decode b_Tape_advance 85 = .ok (.aload_n 0, 1) := by decide +kernel
theorem d_Tape_advance_86 : decode b_Tape_advance 86 = .ok (.getfield 9, 3) := by decide +kernel
theorem d_Tape_advance_89 : decode b_Tape_advance 89 = .ok (.aload_n 0, 1) := by decide +kernel
theorem d_Tape_advance_90 : decode b_Tape_advance 90 = .ok (.getfield 28, 3) := by decide +kernel
theorem d_Tape_advance_93 : decode b_Tape_advance 93 = .ok (.iaload, 1) := by decide +kernel
theorem d_Tape_advance_94 : decode b_Tape_advance 94 = .ok (.goto 4, 3) := by decide +kernel
theorem d_Tape_advance_97 : decode b_Tape_advance 97 = .ok (.iconst (-1), 1) := by decide +kernel
theorem d_Tape_advance_98 : decode b_Tape_advance 98 = .ok (.putfield 15, 3) := by decide +kernel
theorem d_Tape_advance_101 : decode b_Tape_advance 101 = .ok (.aload_n 0, 1) := by decide +kernel
theorem d_Tape_advance_102 : decode b_Tape_advance 102 = .ok (.getfield 15, 3) := by decide +kernel
theorem d_Tape_advance_105 : decode b_Tape_advance 105 = .ok (.iconst (-1), 1) := by decide +kernel
theorem d_Tape_advance_106 : decode b_Tape_advance 106 = .ok (.if_icmp .ne 4, 3) := by decide +kernel
theorem d_Tape_advance_109 : decode b_Tape_advance 109 = .ok (.return_, 1) := by decide +kernel
theorem d_Tape_advance_110 : decode b_Tape_advance 110 = .ok (.aload_n 0, 1) := by decide +kernel
theorem d_Tape_advance_111 : decode b_Tape_advance 111 = .ok (.dup, 1) := by decide +kernel
theorem d_Tape_advance_112 : decode b_Tape_advance 112 = .ok (.getfield 31, 3) := by decide +kernel
theorem d_Tape_advance_115 : decode b_Tape_advance 115 = .ok (.iconst 1, 1) := by decide +kernel
theorem d_Tape_advance_116 : decode b_Tape_advance 116 = .ok (.iadd, 1) := by decide +kernel
theorem d_Tape_advance_117 : decode b_Tape_advance 117 = .ok (.putfield 31, 3) := by decide +kernel
theorem d_Tape_advance_120 : decode b_Tape_advance 120 = .ok (.aload_n 0, 1) := by decide +kernel
theorem d_Tape_advance_121 : decode b_Tape_advance 121 = .ok (.getfield 15, 3) := by decide +kernel
theorem d_Tape_advance_124 : decode b_Tape_advance 124 = .ok (.bipush 97, 2) := by decide +kernel
theorem d_Tape_advance_126 : decode b_Tape_advance 126 = .ok (.if_icmp .lt 115, 3) := by decide +kernel
theorem d_Tape_advance_129 : decode b_Tape_advance 129 = .ok (.aload_n 0, 1) := by decide +kernel
theorem d_Tape_advance_130 : decode b_Tape_advance 130 = .ok (.getfield 15, 3) := by decide +kernel
theorem d_Tape_advance_133 : decode b_Tape_advance 133 = .ok (.bipush 122, 2) := by decide +kernel
theorem d_Tape_advance_135 : decode b_Tape_advance 135 = .ok (.if_icmp .gt 106, 3) := by decide +kernel
theorem d_Tape_advance_138 : decode b_Tape_advance 138 = .ok (.aload_n 0, 1) := by decide +kernel
theorem d_Tape_advance_139 : decode b_Tape_advance 139 = .ok (.getfield 28, 3) := by decide +kernel
theorem d_Tape_advance_142 : decode b_Tape_advance 142 = .ok (.aload_n 0, 1) := by decide +kernel
theorem d_Tape_advance_143 : decode b_Tape_advance 143 = .ok (.getfield 22, 3) := by decide +kernel
theorem d_Tape_advance_146 : decode b_Tape_advance 146 = .ok (.if_icmp .ge 67, 3) := by decide +kernel
theorem d_Tape_advance_149 : decode b_Tape_advance 149 = .ok (.aload_n 0, 1) := by decide +kernel
theorem d_Tape_advance_150 : decode b_Tape_advance 150 = .ok (.getfield 9, 3) := by decide +kernel
theorem d_Tape_advance_153 : decode b_Tape_advance 153 = .ok (.aload_n 0, 1) := by decide +kernel
theorem d_Tape_advance_154 : decode b_Tape_advance 154 = .ok (.getfield 28, 3) := by decide +kernel
theorem d_Tape_advance_157 : decode b_Tape_advance 157 = .ok (.iaload, 1) := by decide +kernel
theorem d_Tape_advance_158 : decode b_Tape_advance 158 = .ok (.bipush 97, 2) := by decide +kernel
theorem d_Tape_advance_160 : decode b_Tape_advance 160 = .ok (.if_icmp .lt 53, 3) := by decide +kernel
theorem d_Tape_advance_163 : decode b_Tape_advance 163 = .ok (.aload_n 0, 1) := by decide +kernel
theorem d_Tape_advance_164 : decode b_Tape_advance 164 = .ok (.getfield 9, 3) := by decide +kernel
theorem d_Tape_advance_167 : decode b_Tape_advance 167 = .ok (.aload_n 0, 1) := by decide +kernel
theorem d_Tape_advance_168 : decode b_Tape_advance 168 = .ok (.getfield 28, 3) := by decide +kernel
theorem d_Tape_advance_171 : decode b_Tape_advance 171 = .ok (.iaload, 1) := by decide +kernel
theorem d_Tape_advance_172 : decode b_Tape_advance 172 = .ok (.bipush 122, 2) := by decide +kernel
theorem d_Tape_advance_174 : decode b_Tape_advance 174 = .ok (.if_icmp .gt 39, 3) := by decide +kernel
theorem d_Tape_advance_177 : decode b_Tape_advance 177 = .ok (.aload_n 0, 1) := by decide +kernel
theorem d_Tape_advance_178 : decode b_Tape_advance 178 = .ok (.aload_n 0, 1) := by decide +kernel
theorem d_Tape_advance_179 : decode b_Tape_advance 179 = .ok (.getfield 47, 3) := by decide +kernel
theorem d_Tape_advance_182 : decode b_Tape_advance 182 = .ok (.iconst 5, 1) := by decide +kernel
theorem d_Tape_advance_183 : decode b_Tape_advance 183 = .ok (.ishl, 1) := by decide +kernel
theorem d_Tape_advance_184 : decode b_Tape_advance 184 = .ok (.aload_n 0, 1) := by decide +kernel
theorem d_Tape_advance_185 : decode b_Tape_advance 185 = .ok (.getfield 9, 3) := by decide +kernel
theorem d_Tape_advance_188 : decode b_Tape_advance 188 = .ok (.aload_n 0, 1) := by decide +kernel
theorem d_Tape_advance_189 : decode b_Tape_advance 189 = .ok (.getfield 28, 3) := by decide +kernel
theorem d_Tape_advance_192 : decode b_Tape_advance 192 = .ok (.iaload, 1) := by decide +kernel
theorem d_Tape_advance_193 : decode b_Tape_advance 193 = .ok (.bipush 31, 2) := by decide +kernel
theorem d_Tape_advance_195 : decode b_Tape_advance 195 = .ok (.iand, 1) := by decide +kernel
theorem d_Tape_advance_196 : decode b_Tape_advance 196 = .ok (.ior, 1) := by decide +kernel
theorem d_Tape_advance_197 : decode b_Tape_advance 197 = .ok (.putfield 47, 3) := by decide +kernel
theorem d_Tape_advance_200 : decode b_Tape_advance 200 = .ok (.aload_n 0, 1) := by decide +kernel
theorem d_Tape_advance_201 : decode b_Tape_advance 201 = .ok (.dup, 1) := by decide +kernel
theorem d_Tape_advance_202 : decode b_Tape_advance 202 = .ok (.getfield 28, 3) := by decide +kernel
theorem d_Tape_advance_205 : decode b_Tape_advance 205 = .ok (.iconst 1, 1) := by decide +kernel
theorem d_Tape_advance_206 : decode b_Tape_advance 206 = .ok (.iadd, 1) := by decide +kernel
theorem d_Tape_advance_207 : decode b_Tape_advance 207 = .ok (.putfield 28, 3) := by decide +kernel
theorem d_Tape_advance_210 : decode b_Tape_advance 210 = .ok (.goto (-72), 3) := by decide +kernel
theorem d_Tape_advance_213 : decode b_Tape_advance 213 = .ok (.aload_n 0, 1) := by decide +kernel
theorem d_Tape_advance_214 : decode b_Tape_advance 214 = .ok (.aload_n 0, 1) := by decide +kernel
theorem d_Tape_advance_215 : decode b_Tape_advance 215 = .ok (.getfield 28, 3) := by decide +kernel
theorem d_Tape_advance_218 : decode b_Tape_advance 218 = .ok (.aload_n 0, 1) := by decide +kernel
theorem d_Tape_advance_219 : decode b_Tape_advance 219 = .ok (.getfield 44, 3) := by decide +kernel
theorem d_Tape_advance_222 : decode b_Tape_advance 222 = .ok (.isub, 1) := by decide +kernel
theorem d_Tape_advance_223 : decode b_Tape_advance 223 = .ok (.bipush 6, 2) := by decide +kernel
theorem d_Tape_advance_225 : decode b_Tape_advance 225 = .ok (.if_icmp .gt 8, 3) := by decide +kernel
theorem d_Tape_advance_228 : decode b_Tape_advance 228 = .ok (.bipush (-3), 2) := by decide +kernel
theorem d_Tape_advance_230 : decode b_Tape_advance 230 = .ok (.goto 5, 3) := by decide +kernel
theorem d_Tape_advance_233 : decode b_Tape_advance 233 = .ok (.bipush (-4), 2) := by decide +kernel
theorem d_Tape_advance_235 : decode b_Tape_advance 235 = .ok (.putfield 15, 3) := by decide +kernel
theorem d_Tape_advance_238 : decode b_Tape_advance 238 = .ok (.goto 137, 3) := by decide +kernel
theorem d_Tape_advance_241 : decode b_Tape_advance 241 = .ok (.aload_n 0, 1) := by decide +kernel
theorem d_Tape_advance_242 : decode b_Tape_advance 242 = .ok (.getfield 15, 3) := by decide +kernel
theorem d_Tape_advance_245 : decode b_Tape_advance 245 = .ok (.bipush 48, 2) := by decide +kernel
theorem d_Tape_advance_247 : decode b_Tape_advance 247 = .ok (.if_icmp .lt 118, 3) := by decide +kernel
theorem d_Tape_advance_250 : decode b_Tape_advance 250 = .ok (.aload_n 0, 1) := by decide +kernel
theorem d_Tape_advance_251 : decode b_Tape_advance 251 = .ok (.getfield 15, 3) := by decide +kernel
theorem d_Tape_advance_254 : decode b_Tape_advance 254 = .ok (.bipush 57, 2) := by decide +kernel
theorem d_Tape_advance_256 : decode b_Tape_advance 256 = .ok (.if_icmp .gt 109, 3) := by decide +kernel
theorem d_Tape_advance_259 : decode b_Tape_advance 259 = .ok (.aload_n 0, 1) := by decide +kernel
theorem d_Tape_advance_260 : decode b_Tape_advance 260 = .ok (.getfield 28, 3) := by decide +kernel
theorem d_Tape_advance_263 : decode b_Tape_advance 263 = .ok (.aload_n 0, 1) := by decide +kernel
theorem d_Tape_advance_264 : decode b_Tape_advance 264 = .ok (.getfield 22, 3) := by decide +kernel
theorem d_Tape_advance_267 : decode b_Tape_advance 267 = .ok (.if_icmp .ge 68, 3) := by decide +kernel
theorem d_Tape_advance_270 : decode b_Tape_advance 270 = .ok (.aload_n 0, 1) := by decide +kernel
theorem d_Tape_advance_271 : decode b_Tape_advance 271 = .ok (.getfield 9, 3) := by decide +kernel
theorem d_Tape_advance_274 : decode b_Tape_advance 274 = .ok (.aload_n 0, 1) := by decide +kernel
theorem d_Tape_advance_275 : decode b_Tape_advance 275 = .ok (.getfield 28, 3) := by decide +kernel
theorem d_Tape_advance_278 : decode b_Tape_advance 278 = .ok (.iaload, 1) := by decide +kernel
theorem d_Tape_advance_279 : decode b_Tape_advance 279 = .ok (.bipush 48, 2) := by decide +kernel
theorem d_Tape_advance_281 : decode b_Tape_advance 281 = .ok (.if_icmp .lt 54, 3) := by decide +kernel
theorem d_Tape_advance_284 : decode b_Tape_advance 284 = .ok (.aload_n 0, 1) := by decide +kernel
theorem d_Tape_advance_285 : decode b_Tape_advance 285 = .ok (.getfield 9, 3) := by decide +kernel
theorem d_Tape_advance_288 : decode b_Tape_advance 288 = .ok (.aload_n 0, 1) := by decide +kernel
theorem d_Tape_advance_289 : decode b_Tape_advance 289 = .ok (.getfield 28, 3) := by decide +kernel
theorem d_Tape_advance_292 : decode b_Tape_advance 292 = .ok (.iaload, 1) := by decide +kernel
theorem d_Tape_advance_293 : decode b_Tape_advance 293 = .ok (.bipush 57, 2) := by decide +kernel
theorem d_Tape_advance_295 : decode b_Tape_advance 295 = .ok (.if_icmp .gt 40, 3) := by decide +kernel
theorem d_Tape_advance_298 : decode b_Tape_advance 298 = .ok (.aload_n 0, 1) := by decide +kernel
theorem d_Tape_advance_299 : decode b_Tape_advance 299 = .ok (.aload_n 0, 1) := by decide +kernel
theorem d_Tape_advance_300 : decode b_Tape_advance 300 = .ok (.getfield 47, 3) := by decide +kernel
theorem d_Tape_advance_303 : decode b_Tape_advance 303 = .ok (.bipush 10, 2) := by decide +kernel
theorem d_Tape_advance_305 : decode b_Tape_advance 305 = .ok (.imul, 1) := by decide +kernel
theorem d_Tape_advance_306 : decode b_Tape_advance 306 = .ok (.aload_n 0, 1) := by decide +kernel
theorem d_Tape_advance_307 : decode b_Tape_advance 307 = .ok (.getfield 9, 3) := by decide +kernel
theorem d_Tape_advance_310 : decode b_Tape_advance 310 = .ok (.aload_n 0, 1) := by decide +kernel
theorem d_Tape_advance_311 : decode b_Tape_advance 311 = .ok (.getfield 28, 3) := by decide +kernel
theorem d_Tape_advance_314 : decode b_Tape_advance 314 = .ok (.iaload, 1) := by decide +kernel
theorem d_Tape_advance_315 : decode b_Tape_advance 315 = .ok (.iadd, 1) := by decide +kernel
theorem d_Tape_advance_316 : decode b_Tape_advance 316 = .ok (.bipush 48, 2) := by decide +kernel
theorem d_Tape_advance_318 : decode b_Tape_advance 318 = .ok (.isub, 1) := by decide +kernel
theorem d_Tape_advance_319 : decode b_Tape_advance 319 = .ok (.putfield 47, 3) := by decide +kernel
theorem d_Tape_advance_322 : decode b_Tape_advance 322 = .ok (.aload_n 0, 1) := by decide +kernel
theorem d_Tape_advance_323 : decode b_Tape_advance 323 = .ok (.dup, 1) := by decide +kernel
theorem d_Tape_advance_324 : decode b_Tape_advance 324 = .ok (.getfield 28, 3) := by decide +kernel
theorem d_Tape_advance_327 : decode b_Tape_advance 327 = .ok (.iconst 1, 1) := by decide +kernel
theorem d_Tape_advance_328 : decode b_Tape_advance 328 = .ok (.iadd, 1) := by decide +kernel
theorem d_Tape_advance_329 : decode b_Tape_advance 329 = .ok (.putfield 28, 3) := by decide +kernel
theorem d_Tape_advance_332 : decode b_Tape_advance 332 = .ok (.goto (-73), 3) := by decide +kernel
theorem d_Tape_advance_335 : decode b_Tape_advance 335 = .ok (.aload_n 0, 1) := by decide +kernel
theorem d_Tape_advance_336 : decode b_Tape_advance 336 = .ok (.aload_n 0, 1) := by decide +kernel
theorem d_Tape_advance_337 : decode b_Tape_advance 337 = .ok (.getfield 28, 3) := by decide +kernel
theorem d_Tape_advance_340 : decode b_Tape_advance 340 = .ok (.aload_n 0, 1) := by decide +kernel
theorem d_Tape_advance_341 : decode b_Tape_advance 341 = .ok (.getfield 44, 3) := by decide +kernel
theorem d_Tape_advance_344 : decode b_Tape_advance 344 = .ok (.isub, 1) := by decide +kernel
theorem d_Tape_advance_345 : decode b_Tape_advance 345 = .ok (.aload_n 0, 1) := by decide +kernel
theorem d_Tape_advance_346 : decode b_Tape_advance 346 = .ok (.getfield 25, 3) := by decide +kernel
theorem d_Tape_advance_349 : decode b_Tape_advance 349 = .ok (.if_icmp .gt 8, 3) := by decide +kernel
theorem d_Tape_advance_352 : decode b_Tape_advance 352 = .ok (.bipush (-2), 2) := by decide +kernel
theorem d_Tape_advance_354 : decode b_Tape_advance 354 = .ok (.goto 5, 3) := by decide +kernel
theorem d_Tape_advance_357 : decode b_Tape_advance 357 = .ok (.bipush (-4), 2) := by decide +kernel
theorem d_Tape_advance_359 : decode b_Tape_advance 359 = .ok (.putfield 15, 3) := by decide +kernel
theorem d_Tape_advance_362 : decode b_Tape_advance 362 = .ok (.goto 13, 3) := by decide +kernel
theorem d_Tape_advance_365 : decode b_Tape_advance 365 = .ok (.aload_n 0, 1) := by decide +kernel
theorem d_Tape_advance_366 : decode b_Tape_advance 366 = .ok (.dup, 1) := by decide +kernel
theorem d_Tape_advance_367 : decode b_Tape_advance 367 = .ok (.getfield 28, 3) := by decide +kernel
theorem d_Tape_advance_370 : decode b_Tape_advance 370 = .ok (.iconst 1, 1) := by decide +kernel
theorem d_Tape_advance_371 : decode b_Tape_advance 371 = .ok (.iadd, 1) := by decide +kernel
theorem d_Tape_advance_372 : decode b_Tape_advance 372 = .ok (.putfield 28, 3) := by decide +kernel
theorem d_Tape_advance_375 : decode b_Tape_advance 375 = .ok (.return_, 1) := by decide +kernel
theorem d_Tape_take_0 : decode b_Tape_take 0 = .ok (.aload_n 0, 1) := by decide +kernel
theorem d_Tape_take_1 : decode b_Tape_take 1 = .ok (.getfield 15, 3) := by decide +kernel
theorem d_Tape_take_4 : decode b_Tape_take 4 = .ok (.iload_n 1, 1) := by decide +kernel
theorem d_Tape_take_5 : decode b_Tape_take 5 = .ok (.if_icmp .eq 8, 3) := by decide +kernel
theorem d_Tape_take_8 : decode b_Tape_take 8 = .ok (.aload_n 0, 1) := by decide +kernel
theorem d_Tape_take_9 : decode b_Tape_take 9 = .ok (.iconst 1, 1) := by decide +kernel
theorem d_Tape_take_10 : decode b_Tape_take 10 = .ok (.invokevirtual 40, 3) := by decide +kernel
theorem d_Tape_take_13 : decode b_Tape_take 13 = .ok (.aload_n 0, 1) := by decide +kernel
theorem d_Tape_take_14 : decode b_Tape_take 14 = .ok (.invokevirtual 37, 3) := by decide +kernel
theorem d_Tape_take_17 : decode b_Tape_take 17 = .ok (.return_, 1) := by decide +kernel
theorem d_Tape_reads_0 : decode b_Tape_reads 0 = .ok (.aload_n 0, 1) := by decide +kernel
theorem d_Tape_reads_1 : decode b_Tape_reads 1 = .ok (.getfield 15, 3) := by decide +kernel
theorem d_Tape_reads_4 : decode b_Tape_reads 4 = .ok (.bipush (-3), 2) := by decide +kernel
theorem d_Tape_reads_6 : decode b_Tape_reads 6 = .ok (.if_icmp .ne 19, 3) := by decide +kernel
theorem d_Tape_reads_9 : decode b_Tape_reads 9 = .ok (.aload_n 0, 1) := by decide +kernel
theorem d_Tape_reads_10 : decode b_Tape_reads 10 = .ok (.getfield 28, 3) := by decide +kernel
theorem d_Tape_reads_13 : decode b_Tape_reads 13 = .ok (.aload_n 0, 1) := by decide +kernel
theorem d_Tape_reads_14 : decode b_Tape_reads 14 = .ok (.getfield 44, 3) := by decide +kernel
theorem d_Tape_reads_17 : decode b_Tape_reads 17 = .ok (.isub, 1) := by decide +kernel
theorem d_Tape_reads_18 : decode b_Tape_reads 18 = .ok (.aload_n 1, 1) := by decide +kernel
theorem d_Tape_reads_19 : decode b_Tape_reads 19 = .ok (.invokevirtual 50, 3) := by decide +kernel
theorem d_Tape_reads_22 : decode b_Tape_reads 22 = .ok (.if_icmp .eq 5, 3) := by decide +kernel
theorem d_Tape_reads_25 : decode b_Tape_reads 25 = .ok (.iconst 0, 1) := by decide +kernel
theorem d_Tape_reads_26 : decode b_Tape_reads 26 = .ok (.ireturn, 1) := by decide +kernel
theorem d_Tape_reads_27 : decode b_Tape_reads 27 = .ok (.iconst 0, 1) := by decide +kernel
theorem d_Tape_reads_28 : decode b_Tape_reads 28 = .ok (.istore_n 2, 1) := by decide +kernel
theorem d_Tape_reads_29 : decode b_Tape_reads 29 = .ok (.iload_n 2, 1) := by decide +kernel
theorem d_Tape_reads_30 : decode b_Tape_reads 30 = .ok (.aload_n 1, 1) := by decide +kernel
theorem d_Tape_reads_31 : decode b_Tape_reads 31 = .ok (.invokevirtual 50, 3) := by decide +kernel
theorem d_Tape_reads_34 : decode b_Tape_reads 34 = .ok (.if_icmp .ge 30, 3) := by decide +kernel
theorem d_Tape_reads_37 : decode b_Tape_reads 37 = .ok (.aload_n 0, 1) := by decide +kernel
theorem d_Tape_reads_38 : decode b_Tape_reads 38 = .ok (.getfield 9, 3) := by decide +kernel
theorem d_Tape_reads_41 : decode b_Tape_reads 41 = .ok (.aload_n 0, 1) := by decide +kernel
theorem d_Tape_reads_42 : decode b_Tape_reads 42 = .ok (.getfield 44, 3) := by decide +kernel
theorem d_Tape_reads_45 : decode b_Tape_reads 45 = .ok (.iload_n 2, 1) := by decide +kernel
theorem d_Tape_reads_46 : decode b_Tape_reads 46 = .ok (.iadd, 1) := by decide +kernel
theorem d_Tape_reads_47 : decode b_Tape_reads 47 = .ok (.iaload, 1) := by decide +kernel
theorem d_Tape_reads_48 : decode b_Tape_reads 48 = .ok (.aload_n 1, 1) := by decide +kernel
theorem d_Tape_reads_49 : decode b_Tape_reads 49 = .ok (.iload_n 2, 1) := by decide +kernel
theorem d_Tape_reads_50 : decode b_Tape_reads 50 = .ok (.invokevirtual 55, 3) := by decide +kernel
theorem d_Tape_reads_53 : decode b_Tape_reads 53 = .ok (.if_icmp .eq 5, 3) := by decide +kernel
theorem d_Tape_reads_56 : decode b_Tape_reads 56 = .ok (.iconst 0, 1) := by decide +kernel
theorem d_Tape_reads_57 : decode b_Tape_reads 57 = .ok (.ireturn, 1) := by decide +kernel
theorem d_Tape_reads_58 : decode b_Tape_reads 58 = .ok (.iinc 2 1, 3) := by decide +kernel
theorem d_Tape_reads_61 : decode b_Tape_reads 61 = .ok (.goto (-32), 3) := by decide +kernel
theorem d_Tape_reads_64 : decode b_Tape_reads 64 = .ok (.iconst 1, 1) := by decide +kernel
theorem d_Tape_reads_65 : decode b_Tape_reads 65 = .ok (.ireturn, 1) := by decide +kernel
theorem d_Band_init_0 : decode b_Band_init 0 = .ok (.aload_n 0, 1) := by decide +kernel
theorem d_Band_init_1 : decode b_Band_init 1 = .ok (.invokespecial 3, 3) := by decide +kernel
theorem d_Band_init_4 : decode b_Band_init 4 = .ok (.aload_n 0, 1) := by decide +kernel
theorem d_Band_init_5 : decode b_Band_init 5 = .ok (.new 9, 3) := by decide +kernel
theorem d_Band_init_8 : decode b_Band_init 8 = .ok (.dup, 1) := by decide +kernel
theorem d_Band_init_9 : decode b_Band_init 9 = .ok (.invokespecial 11, 3) := by decide +kernel
theorem d_Band_init_12 : decode b_Band_init 12 = .ok (.putfield 12, 3) := by decide +kernel
theorem d_Band_init_15 : decode b_Band_init 15 = .ok (.aload_n 0, 1) := by decide +kernel
theorem d_Band_init_16 : decode b_Band_init 16 = .ok (.new 16, 3) := by decide +kernel
theorem d_Band_init_19 : decode b_Band_init 19 = .ok (.dup, 1) := by decide +kernel
theorem d_Band_init_20 : decode b_Band_init 20 = .ok (.invokespecial 18, 3) := by decide +kernel
theorem d_Band_init_23 : decode b_Band_init 23 = .ok (.putfield 19, 3) := by decide +kernel
theorem d_Band_init_26 : decode b_Band_init 26 = .ok (.aload_n 0, 1) := by decide +kernel
theorem d_Band_init_27 : decode b_Band_init 27 = .ok (.new 23, 3) := by decide +kernel
theorem d_Band_init_30 : decode b_Band_init 30 = .ok (.dup, 1) := by decide +kernel
theorem d_Band_init_31 : decode b_Band_init 31 = .ok (.invokespecial 25, 3) := by decide +kernel
theorem d_Band_init_34 : decode b_Band_init 34 = .ok (.putfield 26, 3) := by decide +kernel
theorem d_Band_init_37 : decode b_Band_init 37 = .ok (.aload_n 0, 1) := by decide +kernel
theorem d_Band_init_38 : decode b_Band_init 38 = .ok (.new 30, 3) := by decide +kernel
theorem d_Band_init_41 : decode b_Band_init 41 = .ok (.dup, 1) := by decide +kernel
theorem d_Band_init_42 : decode b_Band_init 42 = .ok (.invokespecial 32, 3) := by decide +kernel
theorem d_Band_init_45 : decode b_Band_init 45 = .ok (.putfield 33, 3) := by decide +kernel
theorem d_Band_init_48 : decode b_Band_init 48 = .ok (.aload_n 0, 1) := by decide +kernel
theorem d_Band_init_49 : decode b_Band_init 49 = .ok (.new 37, 3) := by decide +kernel
theorem d_Band_init_52 : decode b_Band_init 52 = .ok (.dup, 1) := by decide +kernel
theorem d_Band_init_53 : decode b_Band_init 53 = .ok (.invokespecial 39, 3) := by decide +kernel
theorem d_Band_init_56 : decode b_Band_init 56 = .ok (.putfield 40, 3) := by decide +kernel
theorem d_Band_init_59 : decode b_Band_init 59 = .ok (.aload_n 0, 1) := by decide +kernel
theorem d_Band_init_60 : decode b_Band_init 60 = .ok (.new 44, 3) := by decide +kernel
theorem d_Band_init_63 : decode b_Band_init 63 = .ok (.dup, 1) := by decide +kernel
theorem d_Band_init_64 : decode b_Band_init 64 = .ok (.invokespecial 46, 3) := by decide +kernel
theorem d_Band_init_67 : decode b_Band_init 67 = .ok (.putfield 47, 3) := by decide +kernel
theorem d_Band_init_70 : decode b_Band_init 70 = .ok (.aload_n 0, 1) := by decide +kernel
theorem d_Band_init_71 : decode b_Band_init 71 = .ok (.new 51, 3) := by decide +kernel
theorem d_Band_init_74 : decode b_Band_init 74 = .ok (.dup, 1) := by decide +kernel
