theorem d_Model_settles_0 : decode b_Model_settles 0 = .ok (.aload_n 0, 1) := by decide +kernel
theorem d_Model_settles_1 : decode b_Model_settles 1 = .ok (.getfield 275, 3) := by decide +kernel
theorem d_Model_settles_4 : decode b_Model_settles 4 = .ok (.ifCond .le 89, 3) := by decide +kernel
theorem d_Model_settles_7 : decode b_Model_settles 7 = .ok (.aload_n 0, 1) := by decide +kernel
theorem d_Model_settles_8 : decode b_Model_settles 8 = .ok (.getfield 98, 3) := by decide +kernel
theorem d_Model_settles_11 : decode b_Model_settles 11 = .ok (.aload_n 0, 1) := by decide +kernel
theorem d_Model_settles_12 : decode b_Model_settles 12 = .ok (.getfield 275, 3) := by decide +kernel
theorem d_Model_settles_15 : decode b_Model_settles 15 = .ok (.iconst 1, 1) := by decide +kernel
theorem d_Model_settles_16 : decode b_Model_settles 16 = .ok (.isub, 1) := by decide +kernel
theorem d_Model_settles_17 : decode b_Model_settles 17 = .ok (.iaload, 1) := by decide +kernel
theorem d_Model_settles_18 : decode b_Model_settles 18 = .ok (.bipush 40, 2) := by decide +kernel
theorem d_Model_settles_20 : decode b_Model_settles 20 = .ok (.if_icmp .eq 73, 3) := by decide +kernel
theorem d_Model_settles_23 : decode b_Model_settles 23 = .ok (.aload_n 0, 1) := by decide +kernel
theorem d_Model_settles_24 : decode b_Model_settles 24 = .ok (.getfield 98, 3) := by decide +kernel
theorem d_Model_settles_27 : decode b_Model_settles 27 = .ok (.aload_n 0, 1) := by decide +kernel
theorem d_Model_settles_28 : decode b_Model_settles 28 = .ok (.getfield 275, 3) := by decide +kernel
theorem d_Model_settles_31 : decode b_Model_settles 31 = .ok (.iconst 1, 1) := by decide +kernel
theorem d_Model_settles_32 : decode b_Model_settles 32 = .ok (.isub, 1) := by decide +kernel
theorem d_Model_settles_33 : decode b_Model_settles 33 = .ok (.iaload, 1) := by decide +kernel
theorem d_Model_settles_34 : decode b_Model_settles 34 = .ok (.bipush 33, 2) := by decide +kernel
theorem d_Model_settles_36 : decode b_Model_settles 36 = .ok (.if_icmp .ne 11, 3) := by decide +kernel
theorem d_Model_settles_39 : decode b_Model_settles 39 = .ok (.iload_n 1, 1) := by decide +kernel
theorem d_Model_settles_40 : decode b_Model_settles 40 = .ok (.iconst 2, 1) := by decide +kernel
theorem d_Model_settles_41 : decode b_Model_settles 41 = .ok (.if_icmp .gt 52, 3) := by decide +kernel
theorem d_Model_settles_44 : decode b_Model_settles 44 = .ok (.goto 22, 3) := by decide +kernel
theorem d_Model_settles_47 : decode b_Model_settles 47 = .ok (.aload_n 0, 1) := by decide +kernel
theorem d_Model_settles_48 : decode b_Model_settles 48 = .ok (.aload_n 0, 1) := by decide +kernel
theorem d_Model_settles_49 : decode b_Model_settles 49 = .ok (.getfield 98, 3) := by decide +kernel
theorem d_Model_settles_52 : decode b_Model_settles 52 = .ok (.aload_n 0, 1) := by decide +kernel
theorem d_Model_settles_53 : decode b_Model_settles 53 = .ok (.getfield 275, 3) := by decide +kernel
theorem d_Model_settles_56 : decode b_Model_settles 56 = .ok (.iconst 1, 1) := by decide +kernel
theorem d_Model_settles_57 : decode b_Model_settles 57 = .ok (.isub, 1) := by decide +kernel
theorem d_Model_settles_58 : decode b_Model_settles 58 = .ok (.iaload, 1) := by decide +kernel
theorem d_Model_settles_59 : decode b_Model_settles 59 = .ok (.invokevirtual 278, 3) := by decide +kernel
theorem d_Model_settles_62 : decode b_Model_settles 62 = .ok (.iload_n 1, 1) := by decide +kernel
theorem d_Model_settles_63 : decode b_Model_settles 63 = .ok (.if_icmp .lt 30, 3) := by decide +kernel
theorem d_Model_settles_66 : decode b_Model_settles 66 = .ok (.aload_n 0, 1) := by decide +kernel
theorem d_Model_settles_67 : decode b_Model_settles 67 = .ok (.aload_n 0, 1) := by decide +kernel
theorem d_Model_settles_68 : decode b_Model_settles 68 = .ok (.getfield 275, 3) := by decide +kernel
theorem d_Model_settles_71 : decode b_Model_settles 71 = .ok (.iconst 1, 1) := by decide +kernel
theorem d_Model_settles_72 : decode b_Model_settles 72 = .ok (.isub, 1) := by decide +kernel
theorem d_Model_settles_73 : decode b_Model_settles 73 = .ok (.putfield 275, 3) := by decide +kernel
theorem d_Model_settles_76 : decode b_Model_settles 76 = .ok (.aload_n 0, 1) := by decide +kernel
theorem d_Model_settles_77 : decode b_Model_settles 77 = .ok (.aload_n 0, 1) := by decide +kernel
theorem d_Model_settles_78 : decode b_Model_settles 78 = .ok (.getfield 98, 3) := by decide +kernel
theorem d_Model_settles_81 : decode b_Model_settles 81 = .ok (.aload_n 0, 1) := by decide +kernel
theorem d_Model_settles_82 : decode b_Model_settles 82 = .ok (.getfield 275, 3) := by decide +kernel
theorem d_Model_settles_85 : decode b_Model_settles 85 = .ok (.iaload, 1) := by decide +kernel
theorem d_Model_settles_86 : decode b_Model_settles 86 = .ok (.iconst 0, 1) := by decide +kernel
theorem d_Model_settles_87 : decode b_Model_settles 87 = .ok (.invokevirtual 281, 3) := by decide +kernel
theorem d_Model_settles_90 : decode b_Model_settles 90 = .ok (.goto (-90), 3) := by decide +kernel
theorem d_Model_settles_93 : decode b_Model_settles 93 = .ok (.return_, 1) := by decide +kernel
theorem d_Model_open_0 : decode b_Model_open 0 = .ok (.iconst 0, 1) := by decide +kernel
theorem d_Model_open_1 : decode b_Model_open 1 = .ok (.istore_n 1, 1) := by decide +kernel
theorem d_Model_open_2 : decode b_Model_open 2 = .ok (.iconst 0, 1) := by decide +kernel
theorem d_Model_open_3 : decode b_Model_open 3 = .ok (.istore_n 2, 1) := by decide +kernel
theorem d_Model_open_4 : decode b_Model_open 4 = .ok (.iload_n 2, 1) := by decide +kernel
theorem d_Model_open_5 : decode b_Model_open 5 = .ok (.aload_n 0, 1) := by decide +kernel
theorem d_Model_open_6 : decode b_Model_open 6 = .ok (.getfield 275, 3) := by decide +kernel
theorem d_Model_open_9 : decode b_Model_open 9 = .ok (.if_icmp .ge 35, 3) := by decide +kernel
theorem d_Model_open_12 : decode b_Model_open 12 = .ok (.aload_n 0, 1) := by decide +kernel
theorem d_Model_open_13 : decode b_Model_open 13 = .ok (.getfield 98, 3) := by decide +kernel
theorem d_Model_open_16 : decode b_Model_open 16 = .ok (.iload_n 2, 1) := by decide +kernel
theorem d_Model_open_17 : decode b_Model_open 17 = .ok (.iaload, 1) := by decide +kernel
theorem d_Model_open_18 : decode b_Model_open 18 = .ok (.bipush 33, 2) := by decide +kernel
theorem d_Model_open_20 : decode b_Model_open 20 = .ok (.if_icmp .eq 14, 3) := by decide +kernel
theorem d_Model_open_23 : decode b_Model_open 23 = .ok (.aload_n 0, 1) := by decide +kernel
theorem d_Model_open_24 : decode b_Model_open 24 = .ok (.getfield 98, 3) := by decide +kernel
theorem d_Model_open_27 : decode b_Model_open 27 = .ok (.iload_n 2, 1) := by decide +kernel
theorem d_Model_open_28 : decode b_Model_open 28 = .ok (.iaload, 1) := by decide +kernel
theorem d_Model_open_29 : decode b_Model_open 29 = .ok (.bipush 40, 2) := by decide +kernel
theorem d_Model_open_31 : decode b_Model_open 31 = .ok (.if_icmp .ne 7, 3) := by decide +kernel
theorem d_Model_open_34 : decode b_Model_open 34 = .ok (.iload_n 1, 1) := by decide +kernel
theorem d_Model_open_35 : decode b_Model_open 35 = .ok (.iconst 1, 1) := by decide +kernel
theorem d_Model_open_36 : decode b_Model_open 36 = .ok (.iadd, 1) := by decide +kernel
theorem d_Model_open_37 : decode b_Model_open 37 = .ok (.istore_n 1, 1) := by decide +kernel
theorem d_Model_open_38 : decode b_Model_open 38 = .ok (.iinc 2 1, 3) := by decide +kernel
theorem d_Model_open_41 : decode b_Model_open 41 = .ok (.goto (-37), 3) := by decide +kernel
theorem d_Model_open_44 : decode b_Model_open 44 = .ok (.iload_n 1, 1) := by decide +kernel
theorem d_Model_open_45 : decode b_Model_open 45 = .ok (.ireturn, 1) := by decide +kernel
theorem d_Model_value_0 : decode b_Model_value 0 = .ok (.aload_n 0, 1) := by decide +kernel
theorem d_Model_value_1 : decode b_Model_value 1 = .ok (.getfield 222, 3) := by decide +kernel
theorem d_Model_value_4 : decode b_Model_value 4 = .ok (.iconst 4, 1) := by decide +kernel
theorem d_Model_value_5 : decode b_Model_value 5 = .ok (.if_icmp .ne 15, 3) := by decide +kernel
theorem d_Model_value_8 : decode b_Model_value 8 = .ok (.aload_n 0, 1) := by decide +kernel
theorem d_Model_value_9 : decode b_Model_value 9 = .ok (.iconst 0, 1) := by decide +kernel
theorem d_Model_value_10 : decode b_Model_value 10 = .ok (.aload_n 0, 1) := by decide +kernel
theorem d_Model_value_11 : decode b_Model_value 11 = .ok (.getfield 235, 3) := by decide +kernel
theorem d_Model_value_14 : decode b_Model_value 14 = .ok (.invokevirtual 281, 3) := by decide +kernel
theorem d_Model_value_17 : decode b_Model_value 17 = .ok (.goto 124, 3) := by decide +kernel
theorem d_Model_value_20 : decode b_Model_value 20 = .ok (.aload_n 0, 1) := by decide +kernel
theorem d_Model_value_21 : decode b_Model_value 21 = .ok (.getfield 222, 3) := by decide +kernel
theorem d_Model_value_24 : decode b_Model_value 24 = .ok (.iconst 2, 1) := by decide +kernel
theorem d_Model_value_25 : decode b_Model_value 25 = .ok (.if_icmp .ne 110, 3) := by decide +kernel
theorem d_Model_value_28 : decode b_Model_value 28 = .ok (.aload_n 0, 1) := by decide +kernel
theorem d_Model_value_29 : decode b_Model_value 29 = .ok (.aload_n 0, 1) := by decide +kernel
theorem d_Model_value_30 : decode b_Model_value 30 = .ok (.getfield 207, 3) := by decide +kernel
theorem d_Model_value_33 : decode b_Model_value 33 = .ok (.aload_n 0, 1) := by decide +kernel
theorem d_Model_value_34 : decode b_Model_value 34 = .ok (.bipush 97, 2) := by decide +kernel
theorem d_Model_value_36 : decode b_Model_value 36 = .ok (.bipush 103, 2) := by decide +kernel
theorem d_Model_value_38 : decode b_Model_value 38 = .ok (.bipush 101, 2) := by decide +kernel
theorem d_Model_value_40 : decode b_Model_value 40 = .ok (.iconst 0, 1) := by decide +kernel
theorem d_Model_value_41 : decode b_Model_value 41 = .ok (.iconst 0, 1) := by decide +kernel
theorem d_Model_value_42 : decode b_Model_value 42 = .ok (.invokevirtual 211, 3) := by decide +kernel
theorem d_Model_value_45 : decode b_Model_value 45 = .ok (.lcmp, 1) := by decide +kernel
theorem d_Model_value_46 : decode b_Model_value 46 = .ok (.ifCond .ne 7, 3) := by decide +kernel
theorem d_Model_value_49 : decode b_Model_value 49 = .ok (.iconst 1, 1) := by decide +kernel
theorem d_Model_value_50 : decode b_Model_value 50 = .ok (.goto 78, 3) := by decide +kernel
theorem d_Model_value_53 : decode b_Model_value 53 = .ok (.aload_n 0, 1) := by decide +kernel
theorem d_Model_value_54 : decode b_Model_value 54 = .ok (.getfield 207, 3) := by decide +kernel
theorem d_Model_value_57 : decode b_Model_value 57 = .ok (.aload_n 0, 1) := by decide +kernel
theorem d_Model_value_58 : decode b_Model_value 58 = .ok (.bipush 100, 2) := by decide +kernel
theorem d_Model_value_60 : decode b_Model_value 60 = .ok (.bipush 97, 2) := by decide +kernel
theorem d_Model_value_62 : decode b_Model_value 62 = .ok (.bipush 121, 2) := by decide +kernel
theorem d_Model_value_64 : decode b_Model_value 64 = .ok (.bipush 115, 2) := by decide +kernel
theorem d_Model_value_66 : decode b_Model_value 66 = .ok (.iconst 0, 1) := by decide +kernel
theorem d_Model_value_67 : decode b_Model_value 67 = .ok (.invokevirtual 211, 3) := by decide +kernel
theorem d_Model_value_70 : decode b_Model_value 70 = .ok (.lcmp, 1) := by decide +kernel
theorem d_Model_value_71 : decode b_Model_value 71 = .ok (.ifCond .ne 7, 3) := by decide +kernel
theorem d_Model_value_74 : decode b_Model_value 74 = .ok (.iconst 2, 1) := by decide +kernel
theorem d_Model_value_75 : decode b_Model_value 75 = .ok (.goto 53, 3) := by decide +kernel
theorem d_Model_value_78 : decode b_Model_value 78 = .ok (.aload_n 0, 1) := by decide +kernel
theorem d_Model_value_79 : decode b_Model_value 79 = .ok (.getfield 207, 3) := by decide +kernel
theorem d_Model_value_82 : decode b_Model_value 82 = .ok (.aload_n 0, 1) := by decide +kernel
theorem d_Model_value_83 : decode b_Model_value 83 = .ok (.bipush 112, 2) := by decide +kernel
theorem d_Model_value_85 : decode b_Model_value 85 = .ok (.bipush 97, 2) := by decide +kernel
theorem d_Model_value_87 : decode b_Model_value 87 = .ok (.bipush 115, 2) := by decide +kernel
theorem d_Model_value_89 : decode b_Model_value 89 = .ok (.bipush 116, 2) := by decide +kernel
theorem d_Model_value_91 : decode b_Model_value 91 = .ok (.iconst 0, 1) := by decide +kernel
theorem d_Model_value_92 : decode b_Model_value 92 = .ok (.invokevirtual 211, 3) := by decide +kernel
theorem d_Model_value_95 : decode b_Model_value 95 = .ok (.lcmp, 1) := by decide +kernel
theorem d_Model_value_96 : decode b_Model_value 96 = .ok (.ifCond .ne 7, 3) := by decide +kernel
theorem d_Model_value_99 : decode b_Model_value 99 = .ok (.iconst 3, 1) := by decide +kernel
theorem d_Model_value_100 : decode b_Model_value 100 = .ok (.goto 28, 3) := by decide +kernel
theorem d_Model_value_103 : decode b_Model_value 103 = .ok (.aload_n 0, 1) := by decide +kernel
theorem d_Model_value_104 : decode b_Model_value 104 = .ok (.getfield 207, 3) := by decide +kernel
theorem d_Model_value_107 : decode b_Model_value 107 = .ok (.aload_n 0, 1) := by decide +kernel
theorem d_Model_value_108 : decode b_Model_value 108 = .ok (.bipush 111, 2) := by decide +kernel
theorem d_Model_value_110 : decode b_Model_value 110 = .ok (.bipush 117, 2) := by decide +kernel
theorem d_Model_value_112 : decode b_Model_value 112 = .ok (.bipush 116, 2) := by decide +kernel
theorem d_Model_value_114 : decode b_Model_value 114 = .ok (.iconst 0, 1) := by decide +kernel
theorem d_Model_value_115 : decode b_Model_value 115 = .ok (.iconst 0, 1) := by decide +kernel
theorem d_Model_value_116 : decode b_Model_value 116 = .ok (.invokevirtual 211, 3) := by decide +kernel
theorem d_Model_value_119 : decode b_Model_value 119 = .ok (.lcmp, 1) := by decide +kernel
theorem d_Model_value_120 : decode b_Model_value 120 = .ok (.ifCond .ne 7, 3) := by decide +kernel
theorem d_Model_value_123 : decode b_Model_value 123 = .ok (.iconst 4, 1) := by decide +kernel
theorem d_Model_value_124 : decode b_Model_value 124 = .ok (.goto 4, 3) := by decide +kernel
theorem d_Model_value_127 : decode b_Model_value 127 = .ok (.iconst 5, 1) := by decide +kernel
theorem d_Model_value_128 : decode b_Model_value 128 = .ok (.iconst 0, 1) := by decide +kernel
theorem d_Model_value_129 : decode b_Model_value 129 = .ok (.invokevirtual 281, 3) := by decide +kernel
theorem d_Model_value_132 : decode b_Model_value 132 = .ok (.goto 9, 3) := by decide +kernel
theorem d_Model_value_135 : decode b_Model_value 135 = .ok (.aload_n 0, 1) := by decide +kernel
theorem d_Model_value_136 : decode b_Model_value 136 = .ok (.iconst 1, 1) := by decide +kernel
theorem d_Model_value_137 : decode b_Model_value 137 = .ok (.invokevirtual 242, 3) := by decide +kernel
theorem d_Model_value_140 : decode b_Model_value 140 = .ok (.ireturn, 1) := by decide +kernel
theorem d_Model_value_141 : decode b_Model_value 141 = .ok (.iconst 1, 1) := by decide +kernel
theorem d_Model_value_142 : decode b_Model_value 142 = .ok (.ireturn, 1) := by decide +kernel
theorem d_Model_step_0 : decode b_Model_step 0 = .ok (.aload_n 0, 1) := by decide +kernel
theorem d_Model_step_1 : decode b_Model_step 1 = .ok (.aload_n 0, 1) := by decide +kernel
theorem d_Model_step_2 : decode b_Model_step 2 = .ok (.getfield 285, 3) := by decide +kernel
theorem d_Model_step_5 : decode b_Model_step 5 = .ok (.iconst 1, 1) := by decide +kernel
theorem d_Model_step_6 : decode b_Model_step 6 = .ok (.iadd, 1) := by decide +kernel
theorem d_Model_step_7 : decode b_Model_step 7 = .ok (.putfield 285, 3) := by decide +kernel
theorem d_Model_step_10 : decode b_Model_step 10 = .ok (.aload_n 0, 1) := by decide +kernel
theorem d_Model_step_11 : decode b_Model_step 11 = .ok (.iconst 1, 1) := by decide +kernel
theorem d_Model_step_12 : decode b_Model_step 12 = .ok (.invokevirtual 248, 3) := by decide +kernel
theorem d_Model_step_15 : decode b_Model_step 15 = .ok (.return_, 1) := by decide +kernel
theorem d_Model_readSums_0 : decode b_Model_readSums 0 = .ok (.iconst 0, 1) := by decide +kernel
theorem d_Model_readSums_1 : decode b_Model_readSums 1 = .ok (.istore_n 1, 1) := by decide +kernel
theorem d_Model_readSums_2 : decode b_Model_readSums 2 = .ok (.aload_n 0, 1) := by decide +kernel
theorem d_Model_readSums_3 : decode b_Model_readSums 3 = .ok (.invokevirtual 288, 3) := by decide +kernel
theorem d_Model_readSums_6 : decode b_Model_readSums 6 = .ok (.ifCond .ne 5, 3) := by decide +kernel
theorem d_Model_readSums_9 : decode b_Model_readSums 9 = .ok (.iconst 0, 1) := by decide +kernel
theorem d_Model_readSums_10 : decode b_Model_readSums 10 = .ok (.ireturn, 1) := by decide +kernel
theorem d_Model_readSums_11 : decode b_Model_readSums 11 = .ok (.aload_n 0, 1) := by decide +kernel
theorem d_Model_readSums_12 : decode b_Model_readSums 12 = .ok (.invokevirtual 291, 3) := by decide +kernel
theorem d_Model_readSums_15 : decode b_Model_readSums 15 = .ok (.aload_n 0, 1) := by decide +kernel
theorem d_Model_readSums_16 : decode b_Model_readSums 16 = .ok (.bipush 43, 2) := by decide +kernel
theorem d_Model_readSums_18 : decode b_Model_readSums 18 = .ok (.invokevirtual 252, 3) := by decide +kernel
theorem d_Model_readSums_21 : decode b_Model_readSums 21 = .ok (.ifCond .ne 12, 3) := by decide +kernel
theorem d_Model_readSums_24 : decode b_Model_readSums 24 = .ok (.aload_n 0, 1) := by decide +kernel
theorem d_Model_readSums_25 : decode b_Model_readSums 25 = .ok (.bipush 45, 2) := by decide +kernel
theorem d_Model_readSums_27 : decode b_Model_readSums 27 = .ok (.invokevirtual 252, 3) := by decide +kernel
theorem d_Model_readSums_30 : decode b_Model_readSums 30 = .ok (.ifCond .eq 11, 3) := by decide +kernel
theorem d_Model_readSums_33 : decode b_Model_readSums 33 = .ok (.aload_n 0, 1) := by decide +kernel
theorem d_Model_readSums_34 : decode b_Model_readSums 34 = .ok (.iconst 4, 1) := by decide +kernel
theorem d_Model_readSums_35 : decode b_Model_readSums 35 = .ok (.invokevirtual 294, 3) := by decide +kernel
theorem d_Model_readSums_38 : decode b_Model_readSums 38 = .ok (.goto 67, 3) := by decide +kernel
theorem d_Model_readSums_41 : decode b_Model_readSums 41 = .ok (.iload_n 1, 1) := by decide +kernel
theorem d_Model_readSums_42 : decode b_Model_readSums 42 = .ok (.ifCond .ne 40, 3) := by decide +kernel
theorem d_Model_readSums_45 : decode b_Model_readSums 45 = .ok (.aload_n 0, 1) := by decide +kernel
theorem d_Model_readSums_46 : decode b_Model_readSums 46 = .ok (.bipush 60, 2) := by decide +kernel
theorem d_Model_readSums_48 : decode b_Model_readSums 48 = .ok (.invokevirtual 252, 3) := by decide +kernel
theorem d_Model_readSums_51 : decode b_Model_readSums 51 = .ok (.ifCond .ne 21, 3) := by decide +kernel
theorem d_Model_readSums_54 : decode b_Model_readSums 54 = .ok (.aload_n 0, 1) := by decide +kernel
theorem d_Model_readSums_55 : decode b_Model_readSums 55 = .ok (.bipush 61, 2) := by decide +kernel
theorem d_Model_readSums_57 : decode b_Model_readSums 57 = .ok (.invokevirtual 252, 3) := by decide +kernel
theorem d_Model_readSums_60 : decode b_Model_readSums 60 = .ok (.ifCond .ne 12, 3) := by decide +kernel
theorem d_Model_readSums_63 : decode b_Model_readSums 63 = .ok (.aload_n 0, 1) := by decide +kernel
theorem d_Model_readSums_64 : decode b_Model_readSums 64 = .ok (.bipush 62, 2) := by decide +kernel
theorem d_Model_readSums_66 : decode b_Model_readSums 66 = .ok (.invokevirtual 252, 3) := by decide +kernel
theorem d_Model_readSums_69 : decode b_Model_readSums 69 = .ok (.ifCond .eq 13, 3) := by decide +kernel
theorem d_Model_readSums_72 : decode b_Model_readSums 72 = .ok (.aload_n 0, 1) := by decide +kernel
theorem d_Model_readSums_73 : decode b_Model_readSums 73 = .ok (.iconst 4, 1) := by decide +kernel
theorem d_Model_readSums_74 : decode b_Model_readSums 74 = .ok (.invokevirtual 294, 3) := by decide +kernel
theorem d_Model_readSums_77 : decode b_Model_readSums 77 = .ok (.iconst 1, 1) := by decide +kernel
theorem d_Model_readSums_78 : decode b_Model_readSums 78 = .ok (.istore_n 1, 1) := by decide +kernel
theorem d_Model_readSums_79 : decode b_Model_readSums 79 = .ok (.goto 26, 3) := by decide +kernel
theorem d_Model_readSums_82 : decode b_Model_readSums 82 = .ok (.aload_n 0, 1) := by decide +kernel
theorem d_Model_readSums_83 : decode b_Model_readSums 83 = .ok (.iconst 3, 1) := by decide +kernel
theorem d_Model_readSums_84 : decode b_Model_readSums 84 = .ok (.invokevirtual 294, 3) := by decide +kernel
theorem d_Model_readSums_87 : decode b_Model_readSums 87 = .ok (.iload_n 1, 1) := by decide +kernel
theorem d_Model_readSums_88 : decode b_Model_readSums 88 = .ok (.ifCond .ne 11, 3) := by decide +kernel
theorem d_Model_readSums_91 : decode b_Model_readSums 91 = .ok (.aload_n 0, 1) := by decide +kernel
theorem d_Model_readSums_92 : decode b_Model_readSums 92 = .ok (.iconst 1, 1) := by decide +kernel
theorem d_Model_readSums_93 : decode b_Model_readSums 93 = .ok (.invokevirtual 242, 3) := by decide +kernel
theorem d_Model_readSums_96 : decode b_Model_readSums 96 = .ok (.ifCond .eq 7, 3) := by decide +kernel
theorem d_Model_readSums_99 : decode b_Model_readSums 99 = .ok (.iconst 1, 1) := by decide +kernel
theorem d_Model_readSums_100 : decode b_Model_readSums 100 = .ok (.goto 4, 3) := by decide +kernel
theorem d_Model_readSums_103 : decode b_Model_readSums 103 = .ok (.iconst 0, 1) := by decide +kernel
theorem d_Model_readSums_104 : decode b_Model_readSums 104 = .ok (.ireturn, 1) := by decide +kernel
theorem d_Model_readSums_105 : decode b_Model_readSums 105 = .ok (.aload_n 0, 1) := by decide +kernel
theorem d_Model_readSums_106 : decode b_Model_readSums 106 = .ok (.getfield 98, 3) := by decide +kernel
theorem d_Model_readSums_109 : decode b_Model_readSums 109 = .ok (.aload_n 0, 1) := by decide +kernel
theorem d_Model_readSums_110 : decode b_Model_readSums 110 = .ok (.getfield 275, 3) := by decide +kernel
theorem d_Model_readSums_113 : decode b_Model_readSums 113 = .ok (.aload_n 0, 1) := by decide +kernel
theorem d_Model_readSums_114 : decode b_Model_readSums 114 = .ok (.getfield 235, 3) := by decide +kernel
theorem d_Model_readSums_117 : decode b_Model_readSums 117 = .ok (.iastore, 1) := by decide +kernel
theorem d_Model_readSums_118 : decode b_Model_readSums 118 = .ok (.aload_n 0, 1) := by decide +kernel
theorem d_Model_readSums_119 : decode b_Model_readSums 119 = .ok (.aload_n 0, 1) := by decide +kernel
theorem d_Model_readSums_120 : decode b_Model_readSums 120 = .ok (.getfield 275, 3) := by decide +kernel
theorem d_Model_readSums_123 : decode b_Model_readSums 123 = .ok (.iconst 1, 1) := by decide +kernel
theorem d_Model_readSums_124 : decode b_Model_readSums 124 = .ok (.iadd, 1) := by decide +kernel
theorem d_Model_readSums_125 : decode b_Model_readSums 125 = .ok (.putfield 275, 3) := by decide +kernel
theorem d_Model_readSums_128 : decode b_Model_readSums 128 = .ok (.aload_n 0, 1) := by decide +kernel
theorem d_Model_readSums_129 : decode b_Model_readSums 129 = .ok (.invokevirtual 291, 3) := by decide +kernel
theorem d_Model_readSums_132 : decode b_Model_readSums 132 = .ok (.goto (-130), 3) := by decide +kernel
theorem d_Model_readRule_0 : decode b_Model_readRule 0 = .ok (.aload_n 0, 1) := by decide +kernel
theorem d_Model_readRule_1 : decode b_Model_readRule 1 = .ok (.iconst 0, 1) := by decide +kernel
theorem d_Model_readRule_2 : decode b_Model_readRule 2 = .ok (.putfield 204, 3) := by decide +kernel
theorem d_Model_readRule_5 : decode b_Model_readRule 5 = .ok (.aload_n 0, 1) := by decide +kernel
theorem d_Model_readRule_6 : decode b_Model_readRule 6 = .ok (.iconst 0, 1) := by decide +kernel
theorem d_Model_readRule_7 : decode b_Model_readRule 7 = .ok (.putfield 272, 3) := by decide +kernel
theorem d_Model_readRule_10 : decode b_Model_readRule 10 = .ok (.aload_n 0, 1) := by decide +kernel
theorem d_Model_readRule_11 : decode b_Model_readRule 11 = .ok (.iconst 0, 1) := by decide +kernel
theorem d_Model_readRule_12 : decode b_Model_readRule 12 = .ok (.putfield 275, 3) := by decide +kernel
theorem d_Model_readRule_15 : decode b_Model_readRule 15 = .ok (.aload_n 0, 1) := by decide +kernel
theorem d_Model_readRule_16 : decode b_Model_readRule 16 = .ok (.iconst 0, 1) := by decide +kernel
theorem d_Model_readRule_17 : decode b_Model_readRule 17 = .ok (.putfield 285, 3) := by decide +kernel
theorem d_Model_readRule_20 : decode b_Model_readRule 20 = .ok (.aload_n 0, 1) := by decide +kernel
theorem d_Model_readRule_21 : decode b_Model_readRule 21 = .ok (.iconst 1, 1) := by decide +kernel
theorem d_Model_readRule_22 : decode b_Model_readRule 22 = .ok (.invokevirtual 248, 3) := by decide +kernel
theorem d_Model_readRule_25 : decode b_Model_readRule 25 = .ok (.aload_n 0, 1) := by decide +kernel
theorem d_Model_readRule_26 : decode b_Model_readRule 26 = .ok (.bipush 33, 2) := by decide +kernel
theorem d_Model_readRule_28 : decode b_Model_readRule 28 = .ok (.invokevirtual 252, 3) := by decide +kernel
theorem d_Model_readRule_31 : decode b_Model_readRule 31 = .ok (.ifCond .ne 12, 3) := by decide +kernel
theorem d_Model_readRule_34 : decode b_Model_readRule 34 = .ok (.aload_n 0, 1) := by decide +kernel
theorem d_Model_readRule_35 : decode b_Model_readRule 35 = .ok (.bipush 40, 2) := by decide +kernel
theorem d_Model_readRule_37 : decode b_Model_readRule 37 = .ok (.invokevirtual 252, 3) := by decide +kernel
theorem d_Model_readRule_40 : decode b_Model_readRule 40 = .ok (.ifCond .eq 48, 3) := by decide +kernel
theorem d_Model_readRule_43 : decode b_Model_readRule 43 = .ok (.aload_n 0, 1) := by decide +kernel
theorem d_Model_readRule_44 : decode b_Model_readRule 44 = .ok (.invokevirtual 297, 3) := by decide +kernel
theorem d_Model_readRule_47 : decode b_Model_readRule 47 = .ok (.bipush 8, 2) := by decide +kernel
theorem d_Model_readRule_49 : decode b_Model_readRule 49 = .ok (.if_icmp .ne 9, 3) := by decide +kernel
theorem d_Model_readRule_52 : decode b_Model_readRule 52 = .ok (.aload_n 0, 1) := by decide +kernel
theorem d_Model_readRule_53 : decode b_Model_readRule 53 = .ok (.iconst 4, 1) := by decide +kernel
theorem d_Model_readRule_54 : decode b_Model_readRule 54 = .ok (.invokevirtual 242, 3) := by decide +kernel
theorem d_Model_readRule_57 : decode b_Model_readRule 57 = .ok (.ireturn, 1) := by decide +kernel
theorem d_Model_readRule_58 : decode b_Model_readRule 58 = .ok (.aload_n 0, 1) := by decide +kernel
theorem d_Model_readRule_59 : decode b_Model_readRule 59 = .ok (.getfield 98, 3) := by decide +kernel
theorem d_Model_readRule_62 : decode b_Model_readRule 62 = .ok (.aload_n 0, 1) := by decide +kernel
theorem d_Model_readRule_63 : decode b_Model_readRule 63 = .ok (.getfield 275, 3) := by decide +kernel
theorem d_Model_readRule_66 : decode b_Model_readRule 66 = .ok (.aload_n 0, 1) := by decide +kernel
theorem d_Model_readRule_67 : decode b_Model_readRule 67 = .ok (.getfield 235, 3) := by decide +kernel
theorem d_Model_readRule_70 : decode b_Model_readRule 70 = .ok (.iastore, 1) := by decide +kernel
theorem d_Model_readRule_71 : decode b_Model_readRule 71 = .ok (.aload_n 0, 1) := by decide +kernel
theorem d_Model_readRule_72 : decode b_Model_readRule 72 = .ok (.aload_n 0, 1) := by decide +kernel
theorem d_Model_readRule_73 : decode b_Model_readRule 73 = .ok (.getfield 275, 3) := by decide +kernel
theorem d_Model_readRule_76 : decode b_Model_readRule 76 = .ok (.iconst 1, 1) := by decide +kernel
theorem d_Model_readRule_77 : decode b_Model_readRule 77 = .ok (.iadd, 1) := by decide +kernel
theorem d_Model_readRule_78 : decode b_Model_readRule 78 = .ok (.putfield 275, 3) := by decide +kernel
theorem d_Model_readRule_81 : decode b_Model_readRule 81 = .ok (.aload_n 0, 1) := by decide +kernel
theorem d_Model_readRule_82 : decode b_Model_readRule 82 = .ok (.invokevirtual 291, 3) := by decide +kernel
theorem d_Model_readRule_85 : decode b_Model_readRule 85 = .ok (.goto (-60), 3) := by decide +kernel
theorem d_Model_readRule_88 : decode b_Model_readRule 88 = .ok (.aload_n 0, 1) := by decide +kernel
theorem d_Model_readRule_89 : decode b_Model_readRule 89 = .ok (.invokevirtual 300, 3) := by decide +kernel
theorem d_Model_readRule_92 : decode b_Model_readRule 92 = .ok (.ifCond .ne 5, 3) := by decide +kernel
theorem d_Model_readRule_95 : decode b_Model_readRule 95 = .ok (.iconst 0, 1) := by decide +kernel
theorem d_Model_readRule_96 : decode b_Model_readRule 96 = .ok (.ireturn, 1) := by decide +kernel
theorem d_Model_readRule_97 : decode b_Model_readRule 97 = .ok (.iconst 0, 1) := by decide +kernel
theorem d_Model_readRule_98 : decode b_Model_readRule 98 = .ok (.istore_n 1, 1) := by decide +kernel
theorem d_Model_readRule_99 : decode b_Model_readRule 99 = .ok (.iload_n 1, 1) := by decide +kernel
theorem d_Model_readRule_100 : decode b_Model_readRule 100 = .ok (.ifCond .ne 153, 3) := by decide +kernel
theorem d_Model_readRule_103 : decode b_Model_readRule 103 = .ok (.aload_n 0, 1) := by decide +kernel
theorem d_Model_readRule_104 : decode b_Model_readRule 104 = .ok (.bipush 38, 2) := by decide +kernel
theorem d_Model_readRule_106 : decode b_Model_readRule 106 = .ok (.invokevirtual 252, 3) := by decide +kernel
theorem d_Model_readRule_109 : decode b_Model_readRule 109 = .ok (.ifCond .ne 12, 3) := by decide +kernel
theorem d_Model_readRule_112 : decode b_Model_readRule 112 = .ok (.aload_n 0, 1) := by decide +kernel
theorem d_Model_readRule_113 : decode b_Model_readRule 113 = .ok (.bipush 124, 2) := by decide +kernel
theorem d_Model_readRule_115 : decode b_Model_readRule 115 = .ok (.invokevirtual 252, 3) := by decide +kernel
theorem d_Model_readRule_118 : decode b_Model_readRule 118 = .ok (.ifCond .eq 53, 3) := by decide +kernel
theorem d_Model_readRule_121 : decode b_Model_readRule 121 = .ok (.aload_n 0, 1) := by decide +kernel
theorem d_Model_readRule_122 : decode b_Model_readRule 122 = .ok (.aload_n 0, 1) := by decide +kernel
theorem d_Model_readRule_123 : decode b_Model_readRule 123 = .ok (.bipush 38, 2) := by decide +kernel
theorem d_Model_readRule_125 : decode b_Model_readRule 125 = .ok (.invokevirtual 252, 3) := by decide +kernel
theorem d_Model_readRule_128 : decode b_Model_readRule 128 = .ok (.ifCond .eq 7, 3) := by decide +kernel
theorem d_Model_readRule_131 : decode b_Model_readRule 131 = .ok (.iconst 2, 1) := by decide +kernel
theorem d_Model_readRule_132 : decode b_Model_readRule 132 = .ok (.goto 4, 3) := by decide +kernel
theorem d_Model_readRule_135 : decode b_Model_readRule 135 = .ok (.iconst 1, 1) := by decide +kernel
theorem d_Model_readRule_136 : decode b_Model_readRule 136 = .ok (.invokevirtual 294, 3) := by decide +kernel
theorem d_Model_readRule_139 : decode b_Model_readRule 139 = .ok (.aload_n 0, 1) := by decide +kernel
theorem d_Model_readRule_140 : decode b_Model_readRule 140 = .ok (.getfield 98, 3) := by decide +kernel
theorem d_Model_readRule_143 : decode b_Model_readRule 143 = .ok (.aload_n 0, 1) := by decide +kernel
theorem d_Model_readRule_144 : decode b_Model_readRule 144 = .ok (.getfield 275, 3) := by decide +kernel
theorem d_Model_readRule_147 : decode b_Model_readRule 147 = .ok (.aload_n 0, 1) := by decide +kernel
theorem d_Model_readRule_148 : decode b_Model_readRule 148 = .ok (.getfield 235, 3) := by decide +kernel
theorem d_Model_readRule_151 : decode b_Model_readRule 151 = .ok (.iastore, 1) := by decide +kernel
theorem d_Model_readRule_152 : decode b_Model_readRule 152 = .ok (.aload_n 0, 1) := by decide +kernel
theorem d_Model_readRule_153 : decode b_Model_readRule 153 = .ok (.aload_n 0, 1) := by decide +kernel
theorem d_Model_readRule_154 : decode b_Model_readRule 154 = .ok (.getfield 275, 3) := by decide +kernel
theorem d_Model_readRule_157 : decode b_Model_readRule 157 = .ok (.iconst 1, 1) := by decide +kernel
theorem d_Model_readRule_158 : decode b_Model_readRule 158 = .ok (.iadd, 1) := by decide +kernel
theorem d_Model_readRule_159 : decode b_Model_readRule 159 = .ok (.putfield 275, 3) := by decide +kernel
theorem d_Model_readRule_162 : decode b_Model_readRule 162 = .ok (.iconst 1, 1) := by decide +kernel
theorem d_Model_readRule_163 : decode b_Model_readRule 163 = .ok (.istore_n 1, 1) := by decide +kernel
theorem d_Model_readRule_164 : decode b_Model_readRule 164 = .ok (.aload_n 0, 1) := by decide +kernel
theorem d_Model_readRule_165 : decode b_Model_readRule 165 = .ok (.invokevirtual 291, 3) := by decide +kernel
theorem d_Model_readRule_168 : decode b_Model_readRule 168 = .ok (.goto (-69), 3) := by decide +kernel
theorem d_Model_readRule_171 : decode b_Model_readRule 171 = .ok (.aload_n 0, 1) := by decide +kernel
theorem d_Model_readRule_172 : decode b_Model_readRule 172 = .ok (.bipush 41, 2) := by decide +kernel
theorem d_Model_readRule_174 : decode b_Model_readRule 174 = .ok (.invokevirtual 252, 3) := by decide +kernel
theorem d_Model_readRule_177 : decode b_Model_readRule 177 = .ok (.ifCond .eq 43, 3) := by decide +kernel
theorem d_Model_readRule_180 : decode b_Model_readRule 180 = .ok (.aload_n 0, 1) := by decide +kernel
theorem d_Model_readRule_181 : decode b_Model_readRule 181 = .ok (.iconst 1, 1) := by decide +kernel
theorem d_Model_readRule_182 : decode b_Model_readRule 182 = .ok (.invokevirtual 294, 3) := by decide +kernel
theorem d_Model_readRule_185 : decode b_Model_readRule 185 = .ok (.aload_n 0, 1) := by decide +kernel
theorem d_Model_readRule_186 : decode b_Model_readRule 186 = .ok (.getfield 275, 3) := by decide +kernel
theorem d_Model_readRule_189 : decode b_Model_readRule 189 = .ok (.ifCond .ne 9, 3) := by decide +kernel
theorem d_Model_readRule_192 : decode b_Model_readRule 192 = .ok (.aload_n 0, 1) := by decide +kernel
theorem d_Model_readRule_193 : decode b_Model_readRule 193 = .ok (.iconst 1, 1) := by decide +kernel
theorem d_Model_readRule_194 : decode b_Model_readRule 194 = .ok (.invokevirtual 242, 3) := by decide +kernel
theorem d_Model_readRule_197 : decode b_Model_readRule 197 = .ok (.ireturn, 1) := by decide +kernel
theorem d_Model_readRule_198 : decode b_Model_readRule 198 = .ok (.aload_n 0, 1) := by decide +kernel
theorem d_Model_readRule_199 : decode b_Model_readRule 199 = .ok (.aload_n 0, 1) := by decide +kernel
theorem d_Model_readRule_200 : decode b_Model_readRule 200 = .ok (.getfield 275, 3) := by decide +kernel
theorem d_Model_readRule_203 : decode b_Model_readRule 203 = .ok (.iconst 1, 1) := by decide +kernel
theorem d_Model_readRule_204 : decode b_Model_readRule 204 = .ok (.isub, 1) := by decide +kernel
theorem d_Model_readRule_205 : decode b_Model_readRule 205 = .ok (.putfield 275, 3) := by decide +kernel
theorem d_Model_readRule_208 : decode b_Model_readRule 208 = .ok (.aload_n 0, 1) := by decide +kernel
theorem d_Model_readRule_209 : decode b_Model_readRule 209 = .ok (.iconst 2, 1) := by decide +kernel
theorem d_Model_readRule_210 : decode b_Model_readRule 210 = .ok (.invokevirtual 294, 3) := by decide +kernel
theorem d_Model_readRule_213 : decode b_Model_readRule 213 = .ok (.aload_n 0, 1) := by decide +kernel
theorem d_Model_readRule_214 : decode b_Model_readRule 214 = .ok (.invokevirtual 291, 3) := by decide +kernel
theorem d_Model_readRule_217 : decode b_Model_readRule 217 = .ok (.goto (-118), 3) := by decide +kernel
theorem d_Model_readRule_220 : decode b_Model_readRule 220 = .ok (.aload_n 0, 1) := by decide +kernel
theorem d_Model_readRule_221 : decode b_Model_readRule 221 = .ok (.iconst 1, 1) := by decide +kernel
theorem d_Model_readRule_222 : decode b_Model_readRule 222 = .ok (.invokevirtual 294, 3) := by decide +kernel
theorem d_Model_readRule_225 : decode b_Model_readRule 225 = .ok (.aload_n 0, 1) := by decide +kernel
theorem d_Model_readRule_226 : decode b_Model_readRule 226 = .ok (.getfield 222, 3) := by decide +kernel
theorem d_Model_readRule_229 : decode b_Model_readRule 229 = .ok (.ifCond .ne 10, 3) := by decide +kernel
theorem d_Model_readRule_232 : decode b_Model_readRule 232 = .ok (.aload_n 0, 1) := by decide +kernel
theorem d_Model_readRule_233 : decode b_Model_readRule 233 = .ok (.getfield 275, 3) := by decide +kernel
theorem d_Model_readRule_236 : decode b_Model_readRule 236 = .ok (.ifCond .eq 11, 3) := by decide +kernel
theorem d_Model_readRule_239 : decode b_Model_readRule 239 = .ok (.aload_n 0, 1) := by decide +kernel
theorem d_Model_readRule_240 : decode b_Model_readRule 240 = .ok (.iconst 1, 1) := by decide +kernel
theorem d_Model_readRule_241 : decode b_Model_readRule 241 = .ok (.invokevirtual 242, 3) := by decide +kernel
theorem d_Model_readRule_244 : decode b_Model_readRule 244 = .ok (.ifCond .eq 7, 3) := by decide +kernel
theorem d_Model_readRule_247 : decode b_Model_readRule 247 = .ok (.iconst 1, 1) := by decide +kernel
theorem d_Model_readRule_248 : decode b_Model_readRule 248 = .ok (.goto 4, 3) := by decide +kernel
theorem d_Model_readRule_251 : decode b_Model_readRule 251 = .ok (.iconst 0, 1) := by decide +kernel
theorem d_Model_readRule_252 : decode b_Model_readRule 252 = .ok (.ireturn, 1) := by decide +kernel
theorem d_Model_readRule_253 : decode b_Model_readRule 253 = .ok (.goto (-228), 3) := by decide +kernel
theorem d_Model_rule_0 : decode b_Model_rule 0 = .ok (.aload_n 0, 1) := by decide +kernel
theorem d_Model_rule_1 : decode b_Model_rule 1 = .ok (.iconst 0, 1) := by decide +kernel
theorem d_Model_rule_2 : decode b_Model_rule 2 = .ok (.putfield 104, 3) := by decide +kernel
theorem d_Model_rule_5 : decode b_Model_rule 5 = .ok (.aload_n 0, 1) := by decide +kernel
theorem d_Model_rule_6 : decode b_Model_rule 6 = .ok (.invokevirtual 303, 3) := by decide +kernel
theorem d_Model_rule_9 : decode b_Model_rule 9 = .ok (.istore_n 1, 1) := by decide +kernel
theorem d_Model_rule_10 : decode b_Model_rule 10 = .ok (.aload_n 0, 1) := by decide +kernel
theorem d_Model_rule_11 : decode b_Model_rule 11 = .ok (.iconst 0, 1) := by decide +kernel
theorem d_Model_rule_12 : decode b_Model_rule 12 = .ok (.putfield 194, 3) := by decide +kernel
theorem d_Model_rule_15 : decode b_Model_rule 15 = .ok (.iload_n 1, 1) := by decide +kernel
theorem d_Model_rule_16 : decode b_Model_rule 16 = .ok (.ifCond .ne 5, 3) := by decide +kernel
theorem d_Model_rule_19 : decode b_Model_rule 19 = .ok (.iconst (-1), 1) := by decide +kernel
theorem d_Model_rule_20 : decode b_Model_rule 20 = .ok (.ireturn, 1) := by decide +kernel
theorem d_Model_rule_21 : decode b_Model_rule 21 = .ok (.aload_n 0, 1) := by decide +kernel
theorem d_Model_rule_22 : decode b_Model_rule 22 = .ok (.iconst 0, 1) := by decide +kernel
theorem d_Model_rule_23 : decode b_Model_rule 23 = .ok (.putfield 201, 3) := by decide +kernel
theorem d_Model_rule_26 : decode b_Model_rule 26 = .ok (.aload_n 0, 1) := by decide +kernel
theorem d_Model_rule_27 : decode b_Model_rule 27 = .ok (.iconst (-1), 1) := by decide +kernel
theorem d_Model_rule_28 : decode b_Model_rule 28 = .ok (.putfield 82, 3) := by decide +kernel
theorem d_Model_rule_31 : decode b_Model_rule 31 = .ok (.aload_n 0, 1) := by decide +kernel
theorem d_Model_rule_32 : decode b_Model_rule 32 = .ok (.aload_n 0, 1) := by decide +kernel
theorem d_Model_rule_33 : decode b_Model_rule 33 = .ok (.getfield 272, 3) := by decide +kernel
theorem d_Model_rule_36 : decode b_Model_rule 36 = .ok (.putfield 306, 3) := by decide +kernel
theorem d_Model_rule_39 : decode b_Model_rule 39 = .ok (.iconst 0, 1) := by decide +kernel
theorem d_Model_rule_40 : decode b_Model_rule 40 = .ok (.istore_n 2, 1) := by decide +kernel
theorem d_Model_rule_41 : decode b_Model_rule 41 = .ok (.iload_n 2, 1) := by decide +kernel
theorem d_Model_rule_42 : decode b_Model_rule 42 = .ok (.aload_n 0, 1) := by decide +kernel
theorem d_Model_rule_43 : decode b_Model_rule 43 = .ok (.getfield 306, 3) := by decide +kernel
theorem d_Model_rule_46 : decode b_Model_rule 46 = .ok (.if_icmp .ge 33, 3) := by decide +kernel
theorem d_Model_rule_49 : decode b_Model_rule 49 = .ok (.aload_n 0, 1) := by decide +kernel
theorem d_Model_rule_50 : decode b_Model_rule 50 = .ok (.getfield 86, 3) := by decide +kernel
theorem d_Model_rule_53 : decode b_Model_rule 53 = .ok (.iload_n 2, 1) := by decide +kernel
theorem d_Model_rule_54 : decode b_Model_rule 54 = .ok (.aload_n 0, 1) := by decide +kernel
theorem d_Model_rule_55 : decode b_Model_rule 55 = .ok (.getfield 92, 3) := by decide +kernel
theorem d_Model_rule_58 : decode b_Model_rule 58 = .ok (.iload_n 2, 1) := by decide +kernel
theorem d_Model_rule_59 : decode b_Model_rule 59 = .ok (.iaload, 1) := by decide +kernel
theorem d_Model_rule_60 : decode b_Model_rule 60 = .ok (.iastore, 1) := by decide +kernel
theorem d_Model_rule_61 : decode b_Model_rule 61 = .ok (.aload_n 0, 1) := by decide +kernel
theorem d_Model_rule_62 : decode b_Model_rule 62 = .ok (.getfield 89, 3) := by decide +kernel
theorem d_Model_rule_65 : decode b_Model_rule 65 = .ok (.iload_n 2, 1) := by decide +kernel
theorem d_Model_rule_66 : decode b_Model_rule 66 = .ok (.aload_n 0, 1) := by decide +kernel
theorem d_Model_rule_67 : decode b_Model_rule 67 = .ok (.getfield 95, 3) := by decide +kernel
theorem d_Model_rule_70 : decode b_Model_rule 70 = .ok (.iload_n 2, 1) := by decide +kernel
theorem d_Model_rule_71 : decode b_Model_rule 71 = .ok (.iaload, 1) := by decide +kernel
theorem d_Model_rule_72 : decode b_Model_rule 72 = .ok (.iastore, 1) := by decide +kernel
theorem d_Model_rule_73 : decode b_Model_rule 73 = .ok (.iinc 2 1, 3) := by decide +kernel
theorem d_Model_rule_76 : decode b_Model_rule 76 = .ok (.goto (-35), 3) := by decide +kernel
theorem d_Model_rule_79 : decode b_Model_rule 79 = .ok (.aload_n 0, 1) := by decide +kernel
theorem d_Model_rule_80 : decode b_Model_rule 80 = .ok (.getfield 285, 3) := by decide +kernel
theorem d_Model_rule_83 : decode b_Model_rule 83 = .ok (.ireturn, 1) := by decide +kernel
theorem d_Model_done_0 : decode b_Model_done 0 = .ok (.iload_n 1, 1) := by decide +kernel
theorem d_Model_done_1 : decode b_Model_done 1 = .ok (.bipush 43, 2) := by decide +kernel
theorem d_Model_done_3 : decode b_Model_done 3 = .ok (.if_icmp .ne 7, 3) := by decide +kernel
theorem d_Model_done_6 : decode b_Model_done 6 = .ok (.iload_n 2, 1) := by decide +kernel
theorem d_Model_done_7 : decode b_Model_done 7 = .ok (.iload_n 3, 1) := by decide +kernel
theorem d_Model_done_8 : decode b_Model_done 8 = .ok (.iadd, 1) := by decide +kernel
theorem d_Model_done_9 : decode b_Model_done 9 = .ok (.ireturn, 1) := by decide +kernel
theorem d_Model_done_10 : decode b_Model_done 10 = .ok (.iload_n 1, 1) := by decide +kernel
theorem d_Model_done_11 : decode b_Model_done 11 = .ok (.bipush 45, 2) := by decide +kernel
theorem d_Model_done_13 : decode b_Model_done 13 = .ok (.if_icmp .ne 7, 3) := by decide +kernel
theorem d_Model_done_16 : decode b_Model_done 16 = .ok (.iload_n 2, 1) := by decide +kernel
theorem d_Model_done_17 : decode b_Model_done 17 = .ok (.iload_n 3, 1) := by decide +kernel
theorem d_Model_done_18 : decode b_Model_done 18 = .ok (.isub, 1) := by decide +kernel
theorem d_Model_done_19 : decode b_Model_done 19 = .ok (.ireturn, 1) := by decide +kernel
theorem d_Model_done_20 : decode b_Model_done 20 = .ok (.iload_n 1, 1) := by decide +kernel
theorem d_Model_done_21 : decode b_Model_done 21 = .ok (.bipush 60, 2) := by decide +kernel
theorem d_Model_done_23 : decode b_Model_done 23 = .ok (.if_icmp .ne 16, 3) := by decide +kernel
theorem d_Model_done_26 : decode b_Model_done 26 = .ok (.iload_n 2, 1) := by decide +kernel
theorem d_Model_done_27 : decode b_Model_done 27 = .ok (.iload_n 3, 1) := by decide +kernel
theorem d_Model_done_28 : decode b_Model_done 28 = .ok (.if_icmp .ge 7, 3) := by decide +kernel
theorem d_Model_done_31 : decode b_Model_done 31 = .ok (.iconst 1, 1) := by decide +kernel
theorem d_Model_done_32 : decode b_Model_done 32 = .ok (.goto 80, 3) := by decide +kernel
theorem d_Model_done_35 : decode b_Model_done 35 = .ok (.iconst 0, 1) := by decide +kernel
theorem d_Model_done_36 : decode b_Model_done 36 = .ok (.goto 76, 3) := by decide +kernel
theorem d_Model_done_39 : decode b_Model_done 39 = .ok (.iload_n 1, 1) := by decide +kernel
theorem d_Model_done_40 : decode b_Model_done 40 = .ok (.bipush 61, 2) := by decide +kernel
theorem d_Model_done_42 : decode b_Model_done 42 = .ok (.if_icmp .ne 16, 3) := by decide +kernel
theorem d_Model_done_45 : decode b_Model_done 45 = .ok (.iload_n 2, 1) := by decide +kernel
theorem d_Model_done_46 : decode b_Model_done 46 = .ok (.iload_n 3, 1) := by decide +kernel
theorem d_Model_done_47 : decode b_Model_done 47 = .ok (.if_icmp .ne 7, 3) := by decide +kernel
theorem d_Model_done_50 : decode b_Model_done 50 = .ok (.iconst 1, 1) := by decide +kernel
theorem d_Model_done_51 : decode b_Model_done 51 = .ok (.goto 61, 3) := by decide +kernel
theorem d_Model_done_54 : decode b_Model_done 54 = .ok (.iconst 0, 1) := by decide +kernel
theorem d_Model_done_55 : decode b_Model_done 55 = .ok (.goto 57, 3) := by decide +kernel
theorem d_Model_done_58 : decode b_Model_done 58 = .ok (.iload_n 1, 1) := by decide +kernel
theorem d_Model_done_59 : decode b_Model_done 59 = .ok (.bipush 62, 2) := by decide +kernel
theorem d_Model_done_61 : decode b_Model_done 61 = .ok (.if_icmp .ne 16, 3) := by decide +kernel
theorem d_Model_done_64 : decode b_Model_done 64 = .ok (.iload_n 2, 1) := by decide +kernel
theorem d_Model_done_65 : decode b_Model_done 65 = .ok (.iload_n 3, 1) := by decide +kernel
theorem d_Model_done_66 : decode b_Model_done 66 = .ok (.if_icmp .le 7, 3) := by decide +kernel
theorem d_Model_done_69 : decode b_Model_done 69 = .ok (.iconst 1, 1) := by decide +kernel
theorem d_Model_done_70 : decode b_Model_done 70 = .ok (.goto 42, 3) := by decide +kernel
theorem d_Model_done_73 : decode b_Model_done 73 = .ok (.iconst 0, 1) := by decide +kernel
theorem d_Model_done_74 : decode b_Model_done 74 = .ok (.goto 38, 3) := by decide +kernel
theorem d_Model_done_77 : decode b_Model_done 77 = .ok (.iload_n 1, 1) := by decide +kernel
theorem d_Model_done_78 : decode b_Model_done 78 = .ok (.bipush 38, 2) := by decide +kernel
theorem d_Model_done_80 : decode b_Model_done 80 = .ok (.if_icmp .ne 19, 3) := by decide +kernel
theorem d_Model_done_83 : decode b_Model_done 83 = .ok (.iload_n 2, 1) := by decide +kernel
theorem d_Model_done_84 : decode b_Model_done 84 = .ok (.ifCond .eq 11, 3) := by decide +kernel
theorem d_Model_done_87 : decode b_Model_done 87 = .ok (.iload_n 3, 1) := by decide +kernel
theorem d_Model_done_88 : decode b_Model_done 88 = .ok (.ifCond .eq 7, 3) := by decide +kernel
theorem d_Model_done_91 : decode b_Model_done 91 = .ok (.iconst 1, 1) := by decide +kernel
theorem d_Model_done_92 : decode b_Model_done 92 = .ok (.goto 20, 3) := by decide +kernel
theorem d_Model_done_95 : decode b_Model_done 95 = .ok (.iconst 0, 1) := by decide +kernel
theorem d_Model_done_96 : decode b_Model_done 96 = .ok (.goto 16, 3) := by decide +kernel
theorem d_Model_done_99 : decode b_Model_done 99 = .ok (.iload_n 2, 1) := by decide +kernel
theorem d_Model_done_100 : decode b_Model_done 100 = .ok (.ifCond .ne 7, 3) := by decide +kernel
theorem d_Model_done_103 : decode b_Model_done 103 = .ok (.iload_n 3, 1) := by decide +kernel
theorem d_Model_done_104 : decode b_Model_done 104 = .ok (.ifCond .eq 7, 3) := by decide +kernel
theorem d_Model_done_107 : decode b_Model_done 107 = .ok (.iconst 1, 1) := by decide +kernel
theorem d_Model_done_108 : decode b_Model_done 108 = .ok (.goto 4, 3) := by decide +kernel
theorem d_Model_done_111 : decode b_Model_done 111 = .ok (.iconst 0, 1) := by decide +kernel
theorem d_Model_done_112 : decode b_Model_done 112 = .ok (.istore 4, 2) := by decide +kernel
theorem d_Model_done_114 : decode b_Model_done 114 = .ok (.iload 4, 2) := by decide +kernel
theorem d_Model_done_116 : decode b_Model_done 116 = .ok (.ifCond .eq 7, 3) := by decide +kernel
theorem d_Model_done_119 : decode b_Model_done 119 = .ok (.iconst 1, 1) := by decide +kernel
theorem d_Model_done_120 : decode b_Model_done 120 = .ok (.goto 4, 3) := by decide +kernel
theorem d_Model_done_123 : decode b_Model_done 123 = .ok (.iconst 0, 1) := by decide +kernel
theorem d_Model_done_124 : decode b_Model_done 124 = .ok (.ireturn, 1) := by decide +kernel
theorem d_Model_may_0 : decode b_Model_may 0 = .ok (.aload_n 0, 1) := by decide +kernel
theorem d_Model_may_1 : decode b_Model_may 1 = .ok (.iconst 0, 1) := by decide +kernel
theorem d_Model_may_2 : decode b_Model_may 2 = .ok (.putfield 104, 3) := by decide +kernel
theorem d_Model_may_5 : decode b_Model_may 5 = .ok (.aload_n 0, 1) := by decide +kernel
theorem d_Model_may_6 : decode b_Model_may 6 = .ok (.iload_n 1, 1) := by decide +kernel
theorem d_Model_may_7 : decode b_Model_may 7 = .ok (.invokevirtual 110, 3) := by decide +kernel
theorem d_Model_may_10 : decode b_Model_may 10 = .ok (.ifCond .eq 11, 3) := by decide +kernel
theorem d_Model_may_13 : decode b_Model_may 13 = .ok (.aload_n 0, 1) := by decide +kernel
theorem d_Model_may_14 : decode b_Model_may 14 = .ok (.iload_n 2, 1) := by decide +kernel
theorem d_Model_may_15 : decode b_Model_may 15 = .ok (.invokevirtual 179, 3) := by decide +kernel
theorem d_Model_may_18 : decode b_Model_may 18 = .ok (.ifCond .ne 5, 3) := by decide +kernel
theorem d_Model_may_21 : decode b_Model_may 21 = .ok (.iconst (-1), 1) := by decide +kernel
theorem d_Model_may_22 : decode b_Model_may 22 = .ok (.ireturn, 1) := by decide +kernel
theorem d_Model_may_23 : decode b_Model_may 23 = .ok (.aload_n 0, 1) := by decide +kernel
theorem d_Model_may_24 : decode b_Model_may 24 = .ok (.getfield 306, 3) := by decide +kernel
theorem d_Model_may_27 : decode b_Model_may 27 = .ok (.ifCond .ne 5, 3) := by decide +kernel
theorem d_Model_may_30 : decode b_Model_may 30 = .ok (.iconst 1, 1) := by decide +kernel
theorem d_Model_may_31 : decode b_Model_may 31 = .ok (.ireturn, 1) := by decide +kernel
theorem d_Model_may_32 : decode b_Model_may 32 = .ok (.iconst 0, 1) := by decide +kernel
theorem d_Model_may_33 : decode b_Model_may 33 = .ok (.istore_n 3, 1) := by decide +kernel
theorem d_Model_may_34 : decode b_Model_may 34 = .ok (.iconst 0, 1) := by decide +kernel
theorem d_Model_may_35 : decode b_Model_may 35 = .ok (.istore 4, 2) := by decide +kernel
theorem d_Model_may_37 : decode b_Model_may 37 = .ok (.iload 4, 2) := by decide +kernel
theorem d_Model_may_39 : decode b_Model_may 39 = .ok (.aload_n 0, 1) := by decide +kernel
theorem d_Model_may_40 : decode b_Model_may 40 = .ok (.getfield 306, 3) := by decide +kernel
theorem d_Model_may_43 : decode b_Model_may 43 = .ok (.if_icmp .ge 185, 3) := by decide +kernel
theorem d_Model_may_46 : decode b_Model_may 46 = .ok (.aload_n 0, 1) := by decide +kernel
theorem d_Model_may_47 : decode b_Model_may 47 = .ok (.getfield 86, 3) := by decide +kernel
theorem d_Model_may_50 : decode b_Model_may 50 = .ok (.iload 4, 2) := by decide +kernel
theorem d_Model_may_52 : decode b_Model_may 52 = .ok (.iaload, 1) := by decide +kernel
theorem d_Model_may_53 : decode b_Model_may 53 = .ok (.istore 5, 2) := by decide +kernel
theorem d_Model_may_55 : decode b_Model_may 55 = .ok (.iload 5, 2) := by decide +kernel
theorem d_Model_may_57 : decode b_Model_may 57 = .ok (.bipush 33, 2) := by decide +kernel
theorem d_Model_may_59 : decode b_Model_may 59 = .ok (.if_icmp .ne 30, 3) := by decide +kernel
theorem d_Model_may_62 : decode b_Model_may 62 = .ok (.aload_n 0, 1) := by decide +kernel
theorem d_Model_may_63 : decode b_Model_may 63 = .ok (.getfield 101, 3) := by decide +kernel
theorem d_Model_may_66 : decode b_Model_may 66 = .ok (.iload_n 3, 1) := by decide +kernel
theorem d_Model_may_67 : decode b_Model_may 67 = .ok (.iconst 1, 1) := by decide +kernel
theorem d_Model_may_68 : decode b_Model_may 68 = .ok (.isub, 1) := by decide +kernel
theorem d_Model_may_69 : decode b_Model_may 69 = .ok (.aload_n 0, 1) := by decide +kernel
theorem d_Model_may_70 : decode b_Model_may 70 = .ok (.getfield 101, 3) := by decide +kernel
theorem d_Model_may_73 : decode b_Model_may 73 = .ok (.iload_n 3, 1) := by decide +kernel
theorem d_Model_may_74 : decode b_Model_may 74 = .ok (.iconst 1, 1) := by decide +kernel
theorem d_Model_may_75 : decode b_Model_may 75 = .ok (.isub, 1) := by decide +kernel
theorem d_Model_may_76 : decode b_Model_may 76 = .ok (.iaload, 1) := by decide +kernel
theorem d_Model_may_77 : decode b_Model_may 77 = .ok (.ifCond .ne 7, 3) := by decide +kernel
theorem d_Model_may_80 : decode b_Model_may 80 = .ok (.iconst 1, 1) := by decide +kernel
theorem d_Model_may_81 : decode b_Model_may 81 = .ok (.goto 4, 3) := by decide +kernel
theorem d_Model_may_84 : decode b_Model_may 84 = .ok (.iconst 0, 1) := by decide +kernel
theorem d_Model_may_85 : decode b_Model_may 85 = .ok (.iastore, 1) := by decide +kernel
theorem d_Model_may_86 : decode b_Model_may 86 = .ok (.goto 136, 3) := by decide +kernel
theorem d_Model_may_89 : decode b_Model_may 89 = .ok (.iload 5, 2) := by decide +kernel
theorem d_Model_may_91 : decode b_Model_may 91 = .ok (.iconst 5, 1) := by decide +kernel
theorem d_Model_may_92 : decode b_Model_may 92 = .ok (.if_icmp .le 38, 3) := by decide +kernel
theorem d_Model_may_95 : decode b_Model_may 95 = .ok (.iload_n 3, 1) := by decide +kernel
theorem d_Model_may_96 : decode b_Model_may 96 = .ok (.iconst 1, 1) := by decide +kernel
theorem d_Model_may_97 : decode b_Model_may 97 = .ok (.isub, 1) := by decide +kernel
theorem d_Model_may_98 : decode b_Model_may 98 = .ok (.istore_n 3, 1) := by decide +kernel
theorem d_Model_may_99 : decode b_Model_may 99 = .ok (.aload_n 0, 1) := by decide +kernel
theorem d_Model_may_100 : decode b_Model_may 100 = .ok (.getfield 101, 3) := by decide +kernel
theorem d_Model_may_103 : decode b_Model_may 103 = .ok (.iload_n 3, 1) := by decide +kernel
theorem d_Model_may_104 : decode b_Model_may 104 = .ok (.iconst 1, 1) := by decide +kernel
theorem d_Model_may_105 : decode b_Model_may 105 = .ok (.isub, 1) := by decide +kernel
theorem d_Model_may_106 : decode b_Model_may 106 = .ok (.aload_n 0, 1) := by decide +kernel
theorem d_Model_may_107 : decode b_Model_may 107 = .ok (.iload 5, 2) := by decide +kernel
theorem d_Model_may_109 : decode b_Model_may 109 = .ok (.aload_n 0, 1) := by decide +kernel
theorem d_Model_may_110 : decode b_Model_may 110 = .ok (.getfield 101, 3) := by decide +kernel
theorem d_Model_may_113 : decode b_Model_may 113 = .ok (.iload_n 3, 1) := by decide +kernel
theorem d_Model_may_114 : decode b_Model_may 114 = .ok (.iconst 1, 1) := by decide +kernel
theorem d_Model_may_115 : decode b_Model_may 115 = .ok (.isub, 1) := by decide +kernel
theorem d_Model_may_116 : decode b_Model_may 116 = .ok (.iaload, 1) := by decide +kernel
theorem d_Model_may_117 : decode b_Model_may 117 = .ok (.aload_n 0, 1) := by decide +kernel
theorem d_Model_may_118 : decode b_Model_may 118 = .ok (.getfield 101, 3) := by decide +kernel
theorem d_Model_may_121 : decode b_Model_may 121 = .ok (.iload_n 3, 1) := by decide +kernel
theorem d_Model_may_122 : decode b_Model_may 122 = .ok (.iaload, 1) := by decide +kernel
theorem d_Model_may_123 : decode b_Model_may 123 = .ok (.invokevirtual 309, 3) := by decide +kernel
theorem d_Model_may_126 : decode b_Model_may 126 = .ok (.iastore, 1) := by decide +kernel
theorem d_Model_may_127 : decode b_Model_may 127 = .ok (.goto 95, 3) := by decide +kernel
theorem d_Model_may_130 : decode b_Model_may 130 = .ok (.aload_n 0, 1) := by decide +kernel
theorem d_Model_may_131 : decode b_Model_may 131 = .ok (.getfield 101, 3) := by decide +kernel
theorem d_Model_may_134 : decode b_Model_may 134 = .ok (.iload_n 3, 1) := by decide +kernel
theorem d_Model_may_135 : decode b_Model_may 135 = .ok (.iload 5, 2) := by decide +kernel
theorem d_Model_may_137 : decode b_Model_may 137 = .ok (.ifCond .ne 13, 3) := by decide +kernel
theorem d_Model_may_140 : decode b_Model_may 140 = .ok (.aload_n 0, 1) := by decide +kernel
theorem d_Model_may_141 : decode b_Model_may 141 = .ok (.getfield 89, 3) := by decide +kernel
theorem d_Model_may_144 : decode b_Model_may 144 = .ok (.iload 4, 2) := by decide +kernel
theorem d_Model_may_146 : decode b_Model_may 146 = .ok (.iaload, 1) := by decide +kernel
theorem d_Model_may_147 : decode b_Model_may 147 = .ok (.goto 70, 3) := by decide +kernel
theorem d_Model_may_150 : decode b_Model_may 150 = .ok (.iload 5, 2) := by decide +kernel
theorem d_Model_may_152 : decode b_Model_may 152 = .ok (.iconst 1, 1) := by decide +kernel
theorem d_Model_may_153 : decode b_Model_may 153 = .ok (.if_icmp .ne 12, 3) := by decide +kernel
theorem d_Model_may_156 : decode b_Model_may 156 = .ok (.aload_n 0, 1) := by decide +kernel
theorem d_Model_may_157 : decode b_Model_may 157 = .ok (.getfield 7, 3) := by decide +kernel
theorem d_Model_may_160 : decode b_Model_may 160 = .ok (.iload_n 1, 1) := by decide +kernel
theorem d_Model_may_161 : decode b_Model_may 161 = .ok (.iaload, 1) := by decide +kernel
theorem d_Model_may_162 : decode b_Model_may 162 = .ok (.goto 55, 3) := by decide +kernel
theorem d_Model_may_165 : decode b_Model_may 165 = .ok (.iload 5, 2) := by decide +kernel
theorem d_Model_may_167 : decode b_Model_may 167 = .ok (.iconst 2, 1) := by decide +kernel
theorem d_Model_may_168 : decode b_Model_may 168 = .ok (.if_icmp .ne 14, 3) := by decide +kernel
theorem d_Model_may_171 : decode b_Model_may 171 = .ok (.iload_n 2, 1) := by decide +kernel
theorem d_Model_may_172 : decode b_Model_may 172 = .ok (.aload_n 0, 1) := by decide +kernel
theorem d_Model_may_173 : decode b_Model_may 173 = .ok (.getfield 13, 3) := by decide +kernel
theorem d_Model_may_176 : decode b_Model_may 176 = .ok (.iload_n 1, 1) := by decide +kernel
theorem d_Model_may_177 : decode b_Model_may 177 = .ok (.iaload, 1) := by decide +kernel
theorem d_Model_may_178 : decode b_Model_may 178 = .ok (.isub, 1) := by decide +kernel
theorem d_Model_may_179 : decode b_Model_may 179 = .ok (.goto 38, 3) := by decide +kernel
theorem d_Model_may_182 : decode b_Model_may 182 = .ok (.iload 5, 2) := by decide +kernel
theorem d_Model_may_184 : decode b_Model_may 184 = .ok (.iconst 3, 1) := by decide +kernel
theorem d_Model_may_185 : decode b_Model_may 185 = .ok (.if_icmp .ne 12, 3) := by decide +kernel
theorem d_Model_may_188 : decode b_Model_may 188 = .ok (.aload_n 0, 1) := by decide +kernel
theorem d_Model_may_189 : decode b_Model_may 189 = .ok (.getfield 16, 3) := by decide +kernel
theorem d_Model_may_192 : decode b_Model_may 192 = .ok (.iload_n 1, 1) := by decide +kernel
theorem d_Model_may_193 : decode b_Model_may 193 = .ok (.iaload, 1) := by decide +kernel
theorem d_Model_may_194 : decode b_Model_may 194 = .ok (.goto 23, 3) := by decide +kernel
theorem d_Model_may_197 : decode b_Model_may 197 = .ok (.iload 5, 2) := by decide +kernel
theorem d_Model_may_199 : decode b_Model_may 199 = .ok (.iconst 4, 1) := by decide +kernel
theorem d_Model_may_200 : decode b_Model_may 200 = .ok (.if_icmp .ne 16, 3) := by decide +kernel
theorem d_Model_may_203 : decode b_Model_may 203 = .ok (.aload_n 0, 1) := by decide +kernel
theorem d_Model_may_204 : decode b_Model_may 204 = .ok (.iload_n 1, 1) := by decide +kernel
theorem d_Model_may_205 : decode b_Model_may 205 = .ok (.iload_n 2, 1) := by decide +kernel
theorem d_Model_may_206 : decode b_Model_may 206 = .ok (.aload_n 0, 1) := by decide +kernel
theorem d_Model_may_207 : decode b_Model_may 207 = .ok (.getfield 185, 3) := by decide +kernel
theorem d_Model_may_210 : decode b_Model_may 210 = .ok (.invokevirtual 191, 3) := by decide +kernel
theorem d_Model_may_213 : decode b_Model_may 213 = .ok (.goto 4, 3) := by decide +kernel
theorem d_Model_may_216 : decode b_Model_may 216 = .ok (.iload_n 2, 1) := by decide +kernel
theorem d_Model_may_217 : decode b_Model_may 217 = .ok (.iastore, 1) := by decide +kernel
theorem d_Model_may_218 : decode b_Model_may 218 = .ok (.iload_n 3, 1) := by decide +kernel
theorem d_Model_may_219 : decode b_Model_may 219 = .ok (.iconst 1, 1) := by decide +kernel
theorem d_Model_may_220 : decode b_Model_may 220 = .ok (.iadd, 1) := by decide +kernel
theorem d_Model_may_221 : decode b_Model_may 221 = .ok (.istore_n 3, 1) := by decide +kernel
theorem d_Model_may_222 : decode b_Model_may 222 = .ok (.iinc 4 1, 3) := by decide +kernel
theorem d_Model_may_225 : decode b_Model_may 225 = .ok (.goto (-188), 3) := by decide +kernel
theorem d_Model_may_228 : decode b_Model_may 228 = .ok (.aload_n 0, 1) := by decide +kernel
theorem d_Model_may_229 : decode b_Model_may 229 = .ok (.getfield 101, 3) := by decide +kernel
theorem d_Model_may_232 : decode b_Model_may 232 = .ok (.iconst 0, 1) := by decide +kernel
theorem d_Model_may_233 : decode b_Model_may 233 = .ok (.iaload, 1) := by decide +kernel
theorem d_Model_may_234 : decode b_Model_may 234 = .ok (.ireturn, 1) := by decide +kernel
theorem d_Integer_bitCount_0 : decode b_Integer_bitCount 0 = .ok (.iload_n 0, 1) := by decide +kernel
theorem d_Integer_bitCount_1 : decode b_Integer_bitCount 1 = .ok (.iload_n 0, 1) := by decide +kernel
theorem d_Integer_bitCount_2 : decode b_Integer_bitCount 2 = .ok (.iconst 1, 1) := by decide +kernel
theorem d_Integer_bitCount_3 : decode b_Integer_bitCount 3 = .ok (.iushr, 1) := by decide +kernel
theorem d_Integer_bitCount_4 : decode b_Integer_bitCount 4 = .ok (.ldc_w 265, 3) := by decide +kernel
theorem d_Integer_bitCount_7 : decode b_Integer_bitCount 7 = .ok (.iand, 1) := by decide +kernel
theorem d_Integer_bitCount_8 : decode b_Integer_bitCount 8 = .ok (.isub, 1) := by decide +kernel
theorem d_Integer_bitCount_9 : decode b_Integer_bitCount 9 = .ok (.istore_n 0, 1) := by decide +kernel
theorem d_Integer_bitCount_10 : decode b_Integer_bitCount 10 = .ok (.iload_n 0, 1) := by decide +kernel
theorem d_Integer_bitCount_11 : decode b_Integer_bitCount 11 = .ok (.ldc_w 266, 3) := by decide +kernel
theorem d_Integer_bitCount_14 : decode b_Integer_bitCount 14 = .ok (.iand, 1) := by decide +kernel
theorem d_Integer_bitCount_15 : decode b_Integer_bitCount 15 = .ok (.iload_n 0, 1) := by decide +kernel
theorem d_Integer_bitCount_16 : decode b_Integer_bitCount 16 = .ok (.iconst 2, 1) := by decide +kernel
theorem d_Integer_bitCount_17 : decode b_Integer_bitCount 17 = .ok (.iushr, 1) := by decide +kernel
theorem d_Integer_bitCount_18 : decode b_Integer_bitCount 18 = .ok (.ldc_w 266, 3) := by decide +kernel
theorem d_Integer_bitCount_21 : decode b_Integer_bitCount 21 = .ok (.iand, 1) := by decide +kernel
theorem d_Integer_bitCount_22 : decode b_Integer_bitCount 22 = .ok (.iadd, 1) := by decide +kernel
theorem d_Integer_bitCount_23 : decode b_Integer_bitCount 23 = .ok (.istore_n 0, 1) := by decide +kernel
theorem d_Integer_bitCount_24 : decode b_Integer_bitCount 24 = .ok (.iload_n 0, 1) := by decide +kernel
theorem d_Integer_bitCount_25 : decode b_Integer_bitCount 25 = .ok (.iload_n 0, 1) := by decide +kernel
theorem d_Integer_bitCount_26 : decode b_Integer_bitCount 26 = .ok (.iconst 4, 1) := by decide +kernel
theorem d_Integer_bitCount_27 : decode b_Integer_bitCount 27 = .ok (.iushr, 1) := by decide +kernel
theorem d_Integer_bitCount_28 : decode b_Integer_bitCount 28 = .ok (.iadd, 1) := by decide +kernel
theorem d_Integer_bitCount_29 : decode b_Integer_bitCount 29 = .ok (.ldc_w 267, 3) := by decide +kernel
theorem d_Integer_bitCount_32 : decode b_Integer_bitCount 32 = .ok (.iand, 1) := by decide +kernel
theorem d_Integer_bitCount_33 : decode b_Integer_bitCount 33 = .ok (.istore_n 0, 1) := by decide +kernel
theorem d_Integer_bitCount_34 : decode b_Integer_bitCount 34 = .ok (.iload_n 0, 1) := by decide +kernel
theorem d_Integer_bitCount_35 : decode b_Integer_bitCount 35 = .ok (.iload_n 0, 1) := by decide +kernel
theorem d_Integer_bitCount_36 : decode b_Integer_bitCount 36 = .ok (.bipush 8, 2) := by decide +kernel
theorem d_Integer_bitCount_38 : decode b_Integer_bitCount 38 = .ok (.iushr, 1) := by decide +kernel
theorem d_Integer_bitCount_39 : decode b_Integer_bitCount 39 = .ok (.iadd, 1) := by decide +kernel
theorem d_Integer_bitCount_40 : decode b_Integer_bitCount 40 = .ok (.istore_n 0, 1) := by decide +kernel
theorem d_Integer_bitCount_41 : decode b_Integer_bitCount 41 = .ok (.iload_n 0, 1) := by decide +kernel
theorem d_Integer_bitCount_42 : decode b_Integer_bitCount 42 = .ok (.iload_n 0, 1) := by decide +kernel
theorem d_Integer_bitCount_43 : decode b_Integer_bitCount 43 = .ok (.bipush 16, 2) := by decide +kernel
theorem d_Integer_bitCount_45 : decode b_Integer_bitCount 45 = .ok (.iushr, 1) := by decide +kernel
theorem d_Integer_bitCount_46 : decode b_Integer_bitCount 46 = .ok (.iadd, 1) := by decide +kernel
theorem d_Integer_bitCount_47 : decode b_Integer_bitCount 47 = .ok (.istore_n 0, 1) := by decide +kernel
theorem d_Integer_bitCount_48 : decode b_Integer_bitCount 48 = .ok (.iload_n 0, 1) := by decide +kernel
theorem d_Integer_bitCount_49 : decode b_Integer_bitCount 49 = .ok (.bipush 63, 2) := by decide +kernel
theorem d_Integer_bitCount_51 : decode b_Integer_bitCount 51 = .ok (.iand, 1) := by decide +kernel
theorem d_Integer_bitCount_52 : decode b_Integer_bitCount 52 = .ok (.ireturn, 1) := by decide +kernel
theorem d_Math_abs_0 : decode b_Math_abs 0 = .ok (.iload_n 0, 1) := by decide +kernel
theorem d_Math_abs_1 : decode b_Math_abs 1 = .ok (.ifCond .ge 8, 3) := by decide +kernel
theorem d_Math_abs_4 : decode b_Math_abs 4 = .ok (.iload_n 0, 1) := by decide +kernel
theorem d_Math_abs_5 : decode b_Math_abs 5 = .ok (.ineg, 1) := by decide +kernel
theorem d_Math_abs_6 : decode b_Math_abs 6 = .ok (.goto 4, 3) := by decide +kernel
theorem d_Math_abs_9 : decode b_Math_abs 9 = .ok (.iload_n 0, 1) := by decide +kernel
theorem d_Math_abs_10 : decode b_Math_abs 10 = .ok (.ireturn, 1) := by decide +kernel
theorem d_Math_max_0 : decode b_Math_max 0 = .ok (.iload_n 0, 1) := by decide +kernel
theorem d_Math_max_1 : decode b_Math_max 1 = .ok (.iload_n 1, 1) := by decide +kernel
theorem d_Math_max_2 : decode b_Math_max 2 = .ok (.if_icmp .lt 7, 3) := by decide +kernel
theorem d_Math_max_5 : decode b_Math_max 5 = .ok (.iload_n 0, 1) := by decide +kernel
theorem d_Math_max_6 : decode b_Math_max 6 = .ok (.goto 4, 3) := by decide +kernel
theorem d_Math_max_9 : decode b_Math_max 9 = .ok (.iload_n 1, 1) := by decide +kernel
theorem d_Math_max_10 : decode b_Math_max 10 = .ok (.ireturn, 1) := by decide +kernel
theorem d_Math_min_0 : decode b_Math_min 0 = .ok (.iload_n 0, 1) := by decide +kernel
theorem d_Math_min_1 : decode b_Math_min 1 = .ok (.iload_n 1, 1) := by decide +kernel
theorem d_Math_min_2 : decode b_Math_min 2 = .ok (.if_icmp .gt 7, 3) := by decide +kernel
theorem d_Math_min_5 : decode b_Math_min 5 = .ok (.iload_n 0, 1) := by decide +kernel
theorem d_Math_min_6 : decode b_Math_min 6 = .ok (.goto 4, 3) := by decide +kernel
theorem d_Math_min_9 : decode b_Math_min 9 = .ok (.iload_n 1, 1) := by decide +kernel
theorem d_Math_min_10 : decode b_Math_min 10 = .ok (.ireturn, 1) := by decide +kernel
theorem d_Math_minL_0 : decode b_Math_minL 0 = .ok (.lload_n 0, 1) := by decide +kernel
theorem d_Math_minL_1 : decode b_Math_minL 1 = .ok (.lload_n 2, 1) := by decide +kernel
theorem d_Math_minL_2 : decode b_Math_minL 2 = .ok (.lcmp, 1) := by decide +kernel
theorem d_Math_minL_3 : decode b_Math_minL 3 = .ok (.ifCond .gt 7, 3) := by decide +kernel
theorem d_Math_minL_6 : decode b_Math_minL 6 = .ok (.lload_n 0, 1) := by decide +kernel
theorem d_Math_minL_7 : decode b_Math_minL 7 = .ok (.goto 4, 3) := by decide +kernel
theorem d_Math_minL_10 : decode b_Math_minL 10 = .ok (.lload_n 2, 1) := by decide +kernel
theorem d_Math_minL_11 : decode b_Math_minL 11 = .ok (.lreturn, 1) := by decide +kernel
theorem d_String_length_0 : decode b_String_length 0 = .ok (.aload_n 0, 1) := by decide +kernel
