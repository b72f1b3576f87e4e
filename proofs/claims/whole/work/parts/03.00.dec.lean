theorem d_Cover_init_0 : decode b_Cover_init 0 = .ok (.aload_n 0, 1) := by decide +kernel
theorem d_Cover_init_1 : decode b_Cover_init 1 = .ok (.invokespecial 3, 3) := by decide +kernel
theorem d_Cover_init_4 : decode b_Cover_init 4 = .ok (.aload_n 0, 1) := by decide +kernel
theorem d_Cover_init_5 : decode b_Cover_init 5 = .ok (.bipush 10, 2) := by decide +kernel
theorem d_Cover_init_7 : decode b_Cover_init 7 = .ok (.newarray .int, 2) := by decide +kernel
theorem d_Cover_init_9 : decode b_Cover_init 9 = .ok (.putfield 9, 3) := by decide +kernel
theorem d_Cover_init_12 : decode b_Cover_init 12 = .ok (.aload_n 0, 1) := by decide +kernel
theorem d_Cover_init_13 : decode b_Cover_init 13 = .ok (.bipush 14, 2) := by decide +kernel
theorem d_Cover_init_15 : decode b_Cover_init 15 = .ok (.newarray .int, 2) := by decide +kernel
theorem d_Cover_init_17 : decode b_Cover_init 17 = .ok (.putfield 15, 3) := by decide +kernel
theorem d_Cover_init_20 : decode b_Cover_init 20 = .ok (.aload_n 0, 1) := by decide +kernel
theorem d_Cover_init_21 : decode b_Cover_init 21 = .ok (.sipush 1024, 3) := by decide +kernel
theorem d_Cover_init_24 : decode b_Cover_init 24 = .ok (.newarray .int, 2) := by decide +kernel
theorem d_Cover_init_26 : decode b_Cover_init 26 = .ok (.putfield 18, 3) := by decide +kernel
theorem d_Cover_init_29 : decode b_Cover_init 29 = .ok (.return_, 1) := by decide +kernel
theorem d_Cover_coversMust_0 : decode b_Cover_coversMust 0 = .ok (.aload_n 0, 1) := by decide +kernel
theorem d_Cover_coversMust_1 : decode b_Cover_coversMust 1 = .ok (.aload_n 1, 1) := by decide +kernel
theorem d_Cover_coversMust_2 : decode b_Cover_coversMust 2 = .ok (.aload_n 2, 1) := by decide +kernel
theorem d_Cover_coversMust_3 : decode b_Cover_coversMust 3 = .ok (.invokevirtual 21, 3) := by decide +kernel
theorem d_Cover_coversMust_6 : decode b_Cover_coversMust 6 = .ok (.aload_n 0, 1) := by decide +kernel
theorem d_Cover_coversMust_7 : decode b_Cover_coversMust 7 = .ok (.getfield 15, 3) := by decide +kernel
theorem d_Cover_coversMust_10 : decode b_Cover_coversMust 10 = .ok (.iconst (-1), 1) := by decide +kernel
theorem d_Cover_coversMust_11 : decode b_Cover_coversMust 11 = .ok (.invokestatic 25, 3) := by decide +kernel
theorem d_Cover_coversMust_14 : decode b_Cover_coversMust 14 = .ok (.iconst 0, 1) := by decide +kernel
theorem d_Cover_coversMust_15 : decode b_Cover_coversMust 15 = .ok (.istore_n 3, 1) := by decide +kernel
theorem d_Cover_coversMust_16 : decode b_Cover_coversMust 16 = .ok (.iload_n 3, 1) := by decide +kernel
theorem d_Cover_coversMust_17 : decode b_Cover_coversMust 17 = .ok (.aload_n 1, 1) := by decide +kernel
theorem d_Cover_coversMust_18 : decode b_Cover_coversMust 18 = .ok (.getfield 31, 3) := by decide +kernel
theorem d_Cover_coversMust_21 : decode b_Cover_coversMust 21 = .ok (.if_icmp .ge 33, 3) := by decide +kernel
theorem d_Cover_coversMust_24 : decode b_Cover_coversMust 24 = .ok (.aload_n 0, 1) := by decide +kernel
theorem d_Cover_coversMust_25 : decode b_Cover_coversMust 25 = .ok (.iconst 0, 1) := by decide +kernel
theorem d_Cover_coversMust_26 : decode b_Cover_coversMust 26 = .ok (.putfield 37, 3) := by decide +kernel
theorem d_Cover_coversMust_29 : decode b_Cover_coversMust 29 = .ok (.aload_n 1, 1) := by decide +kernel
theorem d_Cover_coversMust_30 : decode b_Cover_coversMust 30 = .ok (.iload_n 3, 1) := by decide +kernel
theorem d_Cover_coversMust_31 : decode b_Cover_coversMust 31 = .ok (.invokevirtual 40, 3) := by decide +kernel
theorem d_Cover_coversMust_34 : decode b_Cover_coversMust 34 = .ok (.ifCond .eq 14, 3) := by decide +kernel
theorem d_Cover_coversMust_37 : decode b_Cover_coversMust 37 = .ok (.aload_n 0, 1) := by decide +kernel
theorem d_Cover_coversMust_38 : decode b_Cover_coversMust 38 = .ok (.iload_n 3, 1) := by decide +kernel
theorem d_Cover_coversMust_39 : decode b_Cover_coversMust 39 = .ok (.iconst 0, 1) := by decide +kernel
theorem d_Cover_coversMust_40 : decode b_Cover_coversMust 40 = .ok (.invokevirtual 44, 3) := by decide +kernel
theorem d_Cover_coversMust_43 : decode b_Cover_coversMust 43 = .ok (.ifCond .ne 5, 3) := by decide +kernel
theorem d_Cover_coversMust_46 : decode b_Cover_coversMust 46 = .ok (.iconst 0, 1) := by decide +kernel
theorem d_Cover_coversMust_47 : decode b_Cover_coversMust 47 = .ok (.ireturn, 1) := by decide +kernel
theorem d_Cover_coversMust_48 : decode b_Cover_coversMust 48 = .ok (.iinc 3 1, 3) := by decide +kernel
theorem d_Cover_coversMust_51 : decode b_Cover_coversMust 51 = .ok (.goto (-35), 3) := by decide +kernel
theorem d_Cover_coversMust_54 : decode b_Cover_coversMust 54 = .ok (.iconst 1, 1) := by decide +kernel
theorem d_Cover_coversMust_55 : decode b_Cover_coversMust 55 = .ok (.ireturn, 1) := by decide +kernel
theorem d_Cover_findAble_0 : decode b_Cover_findAble 0 = .ok (.iconst 0, 1) := by decide +kernel
theorem d_Cover_findAble_1 : decode b_Cover_findAble 1 = .ok (.istore_n 3, 1) := by decide +kernel
theorem d_Cover_findAble_2 : decode b_Cover_findAble 2 = .ok (.iload_n 3, 1) := by decide +kernel
theorem d_Cover_findAble_3 : decode b_Cover_findAble 3 = .ok (.aload_n 1, 1) := by decide +kernel
theorem d_Cover_findAble_4 : decode b_Cover_findAble 4 = .ok (.getfield 31, 3) := by decide +kernel
theorem d_Cover_findAble_7 : decode b_Cover_findAble 7 = .ok (.if_icmp .ge 33, 3) := by decide +kernel
theorem d_Cover_findAble_10 : decode b_Cover_findAble 10 = .ok (.aload_n 0, 1) := by decide +kernel
theorem d_Cover_findAble_11 : decode b_Cover_findAble 11 = .ok (.getfield 9, 3) := by decide +kernel
theorem d_Cover_findAble_14 : decode b_Cover_findAble 14 = .ok (.iload_n 3, 1) := by decide +kernel
theorem d_Cover_findAble_15 : decode b_Cover_findAble 15 = .ok (.aload_n 1, 1) := by decide +kernel
theorem d_Cover_findAble_16 : decode b_Cover_findAble 16 = .ok (.iload_n 3, 1) := by decide +kernel
theorem d_Cover_findAble_17 : decode b_Cover_findAble 17 = .ok (.invokevirtual 40, 3) := by decide +kernel
theorem d_Cover_findAble_20 : decode b_Cover_findAble 20 = .ok (.ifCond .eq 12, 3) := by decide +kernel
theorem d_Cover_findAble_23 : decode b_Cover_findAble 23 = .ok (.aload_n 2, 1) := by decide +kernel
theorem d_Cover_findAble_24 : decode b_Cover_findAble 24 = .ok (.aload_n 1, 1) := by decide +kernel
theorem d_Cover_findAble_25 : decode b_Cover_findAble 25 = .ok (.iload_n 3, 1) := by decide +kernel
theorem d_Cover_findAble_26 : decode b_Cover_findAble 26 = .ok (.invokevirtual 48, 3) := by decide +kernel
theorem d_Cover_findAble_29 : decode b_Cover_findAble 29 = .ok (.goto 4, 3) := by decide +kernel
theorem d_Cover_findAble_32 : decode b_Cover_findAble 32 = .ok (.iconst 0, 1) := by decide +kernel
theorem d_Cover_findAble_33 : decode b_Cover_findAble 33 = .ok (.iastore, 1) := by decide +kernel
theorem d_Cover_findAble_34 : decode b_Cover_findAble 34 = .ok (.iinc 3 1, 3) := by decide +kernel
theorem d_Cover_findAble_37 : decode b_Cover_findAble 37 = .ok (.goto (-35), 3) := by decide +kernel
theorem d_Cover_findAble_40 : decode b_Cover_findAble 40 = .ok (.return_, 1) := by decide +kernel
theorem d_Cover_findPlayer_0 : decode b_Cover_findPlayer 0 = .ok (.iload_n 2, 1) := by decide +kernel
theorem d_Cover_findPlayer_1 : decode b_Cover_findPlayer 1 = .ok (.bipush 10, 2) := by decide +kernel
theorem d_Cover_findPlayer_3 : decode b_Cover_findPlayer 3 = .ok (.if_icmp .le 5, 3) := by decide +kernel
theorem d_Cover_findPlayer_6 : decode b_Cover_findPlayer 6 = .ok (.iconst 0, 1) := by decide +kernel
theorem d_Cover_findPlayer_7 : decode b_Cover_findPlayer 7 = .ok (.ireturn, 1) := by decide +kernel
theorem d_Cover_findPlayer_8 : decode b_Cover_findPlayer 8 = .ok (.iconst 0, 1) := by decide +kernel
theorem d_Cover_findPlayer_9 : decode b_Cover_findPlayer 9 = .ok (.istore_n 3, 1) := by decide +kernel
theorem d_Cover_findPlayer_10 : decode b_Cover_findPlayer 10 = .ok (.iload_n 3, 1) := by decide +kernel
theorem d_Cover_findPlayer_11 : decode b_Cover_findPlayer 11 = .ok (.bipush 14, 2) := by decide +kernel
theorem d_Cover_findPlayer_13 : decode b_Cover_findPlayer 13 = .ok (.if_icmp .ge 85, 3) := by decide +kernel
theorem d_Cover_findPlayer_16 : decode b_Cover_findPlayer 16 = .ok (.iconst 1, 1) := by decide +kernel
theorem d_Cover_findPlayer_17 : decode b_Cover_findPlayer 17 = .ok (.iload_n 3, 1) := by decide +kernel
theorem d_Cover_findPlayer_18 : decode b_Cover_findPlayer 18 = .ok (.ishl, 1) := by decide +kernel
theorem d_Cover_findPlayer_19 : decode b_Cover_findPlayer 19 = .ok (.istore 4, 2) := by decide +kernel
theorem d_Cover_findPlayer_21 : decode b_Cover_findPlayer 21 = .ok (.aload_n 0, 1) := by decide +kernel
theorem d_Cover_findPlayer_22 : decode b_Cover_findPlayer 22 = .ok (.getfield 9, 3) := by decide +kernel
theorem d_Cover_findPlayer_25 : decode b_Cover_findPlayer 25 = .ok (.iload_n 1, 1) := by decide +kernel
theorem d_Cover_findPlayer_26 : decode b_Cover_findPlayer 26 = .ok (.iaload, 1) := by decide +kernel
theorem d_Cover_findPlayer_27 : decode b_Cover_findPlayer 27 = .ok (.iload 4, 2) := by decide +kernel
theorem d_Cover_findPlayer_29 : decode b_Cover_findPlayer 29 = .ok (.iand, 1) := by decide +kernel
theorem d_Cover_findPlayer_30 : decode b_Cover_findPlayer 30 = .ok (.ifCond .eq 62, 3) := by decide +kernel
theorem d_Cover_findPlayer_33 : decode b_Cover_findPlayer 33 = .ok (.aload_n 0, 1) := by decide +kernel
theorem d_Cover_findPlayer_34 : decode b_Cover_findPlayer 34 = .ok (.getfield 37, 3) := by decide +kernel
theorem d_Cover_findPlayer_37 : decode b_Cover_findPlayer 37 = .ok (.iload 4, 2) := by decide +kernel
theorem d_Cover_findPlayer_39 : decode b_Cover_findPlayer 39 = .ok (.iand, 1) := by decide +kernel
theorem d_Cover_findPlayer_40 : decode b_Cover_findPlayer 40 = .ok (.ifCond .eq 6, 3) := by decide +kernel
theorem d_Cover_findPlayer_43 : decode b_Cover_findPlayer 43 = .ok (.goto 49, 3) := by decide +kernel
theorem d_Cover_findPlayer_46 : decode b_Cover_findPlayer 46 = .ok (.aload_n 0, 1) := by decide +kernel
theorem d_Cover_findPlayer_47 : decode b_Cover_findPlayer 47 = .ok (.dup, 1) := by decide +kernel
theorem d_Cover_findPlayer_48 : decode b_Cover_findPlayer 48 = .ok (.getfield 37, 3) := by decide +kernel
theorem d_Cover_findPlayer_51 : decode b_Cover_findPlayer 51 = .ok (.iload 4, 2) := by decide +kernel
theorem d_Cover_findPlayer_53 : decode b_Cover_findPlayer 53 = .ok (.ior, 1) := by decide +kernel
theorem d_Cover_findPlayer_54 : decode b_Cover_findPlayer 54 = .ok (.putfield 37, 3) := by decide +kernel
theorem d_Cover_findPlayer_57 : decode b_Cover_findPlayer 57 = .ok (.aload_n 0, 1) := by decide +kernel
theorem d_Cover_findPlayer_58 : decode b_Cover_findPlayer 58 = .ok (.getfield 15, 3) := by decide +kernel
theorem d_Cover_findPlayer_61 : decode b_Cover_findPlayer 61 = .ok (.iload_n 3, 1) := by decide +kernel
theorem d_Cover_findPlayer_62 : decode b_Cover_findPlayer 62 = .ok (.iaload, 1) := by decide +kernel
theorem d_Cover_findPlayer_63 : decode b_Cover_findPlayer 63 = .ok (.iconst (-1), 1) := by decide +kernel
theorem d_Cover_findPlayer_64 : decode b_Cover_findPlayer 64 = .ok (.if_icmp .eq 19, 3) := by decide +kernel
theorem d_Cover_findPlayer_67 : decode b_Cover_findPlayer 67 = .ok (.aload_n 0, 1) := by decide +kernel
theorem d_Cover_findPlayer_68 : decode b_Cover_findPlayer 68 = .ok (.aload_n 0, 1) := by decide +kernel
theorem d_Cover_findPlayer_69 : decode b_Cover_findPlayer 69 = .ok (.getfield 15, 3) := by decide +kernel
theorem d_Cover_findPlayer_72 : decode b_Cover_findPlayer 72 = .ok (.iload_n 3, 1) := by decide +kernel
theorem d_Cover_findPlayer_73 : decode b_Cover_findPlayer 73 = .ok (.iaload, 1) := by decide +kernel
theorem d_Cover_findPlayer_74 : decode b_Cover_findPlayer 74 = .ok (.iload_n 2, 1) := by decide +kernel
theorem d_Cover_findPlayer_75 : decode b_Cover_findPlayer 75 = .ok (.iconst 1, 1) := by decide +kernel
theorem d_Cover_findPlayer_76 : decode b_Cover_findPlayer 76 = .ok (.iadd, 1) := by decide +kernel
theorem d_Cover_findPlayer_77 : decode b_Cover_findPlayer 77 = .ok (.invokevirtual 44, 3) := by decide +kernel
theorem d_Cover_findPlayer_80 : decode b_Cover_findPlayer 80 = .ok (.ifCond .eq 12, 3) := by decide +kernel
theorem d_Cover_findPlayer_83 : decode b_Cover_findPlayer 83 = .ok (.aload_n 0, 1) := by decide +kernel
theorem d_Cover_findPlayer_84 : decode b_Cover_findPlayer 84 = .ok (.getfield 15, 3) := by decide +kernel
theorem d_Cover_findPlayer_87 : decode b_Cover_findPlayer 87 = .ok (.iload_n 3, 1) := by decide +kernel
theorem d_Cover_findPlayer_88 : decode b_Cover_findPlayer 88 = .ok (.iload_n 1, 1) := by decide +kernel
theorem d_Cover_findPlayer_89 : decode b_Cover_findPlayer 89 = .ok (.iastore, 1) := by decide +kernel
theorem d_Cover_findPlayer_90 : decode b_Cover_findPlayer 90 = .ok (.iconst 1, 1) := by decide +kernel
theorem d_Cover_findPlayer_91 : decode b_Cover_findPlayer 91 = .ok (.ireturn, 1) := by decide +kernel
theorem d_Cover_findPlayer_92 : decode b_Cover_findPlayer 92 = .ok (.iinc 3 1, 3) := by decide +kernel
theorem d_Cover_findPlayer_95 : decode b_Cover_findPlayer 95 = .ok (.goto (-85), 3) := by decide +kernel
theorem d_Cover_findPlayer_98 : decode b_Cover_findPlayer 98 = .ok (.iconst 0, 1) := by decide +kernel
theorem d_Cover_findPlayer_99 : decode b_Cover_findPlayer 99 = .ok (.ireturn, 1) := by decide +kernel
theorem d_Cover_leastLack_0 : decode b_Cover_leastLack 0 = .ok (.aload_n 0, 1) := by decide +kernel
theorem d_Cover_leastLack_1 : decode b_Cover_leastLack 1 = .ok (.aload_n 1, 1) := by decide +kernel
theorem d_Cover_leastLack_2 : decode b_Cover_leastLack 2 = .ok (.aload_n 2, 1) := by decide +kernel
theorem d_Cover_leastLack_3 : decode b_Cover_leastLack 3 = .ok (.invokevirtual 21, 3) := by decide +kernel
theorem d_Cover_leastLack_6 : decode b_Cover_leastLack 6 = .ok (.iconst 0, 1) := by decide +kernel
theorem d_Cover_leastLack_7 : decode b_Cover_leastLack 7 = .ok (.istore_n 3, 1) := by decide +kernel
theorem d_Cover_leastLack_8 : decode b_Cover_leastLack 8 = .ok (.bipush 11, 2) := by decide +kernel
theorem d_Cover_leastLack_10 : decode b_Cover_leastLack 10 = .ok (.istore 4, 2) := by decide +kernel
theorem d_Cover_leastLack_12 : decode b_Cover_leastLack 12 = .ok (.iconst 0, 1) := by decide +kernel
theorem d_Cover_leastLack_13 : decode b_Cover_leastLack 13 = .ok (.istore 5, 2) := by decide +kernel
theorem d_Cover_leastLack_15 : decode b_Cover_leastLack 15 = .ok (.iload 5, 2) := by decide +kernel
theorem d_Cover_leastLack_17 : decode b_Cover_leastLack 17 = .ok (.aload_n 1, 1) := by decide +kernel
theorem d_Cover_leastLack_18 : decode b_Cover_leastLack 18 = .ok (.getfield 31, 3) := by decide +kernel
theorem d_Cover_leastLack_21 : decode b_Cover_leastLack 21 = .ok (.if_icmp .ge 108, 3) := by decide +kernel
theorem d_Cover_leastLack_24 : decode b_Cover_leastLack 24 = .ok (.iconst 1, 1) := by decide +kernel
theorem d_Cover_leastLack_25 : decode b_Cover_leastLack 25 = .ok (.iload 5, 2) := by decide +kernel
theorem d_Cover_leastLack_27 : decode b_Cover_leastLack 27 = .ok (.ishl, 1) := by decide +kernel
theorem d_Cover_leastLack_28 : decode b_Cover_leastLack 28 = .ok (.istore 6, 2) := by decide +kernel
theorem d_Cover_leastLack_30 : decode b_Cover_leastLack 30 = .ok (.iconst 0, 1) := by decide +kernel
theorem d_Cover_leastLack_31 : decode b_Cover_leastLack 31 = .ok (.istore 7, 2) := by decide +kernel
theorem d_Cover_leastLack_33 : decode b_Cover_leastLack 33 = .ok (.iload 7, 2) := by decide +kernel
theorem d_Cover_leastLack_35 : decode b_Cover_leastLack 35 = .ok (.iload 6, 2) := by decide +kernel
theorem d_Cover_leastLack_37 : decode b_Cover_leastLack 37 = .ok (.if_icmp .ge 86, 3) := by decide +kernel
theorem d_Cover_leastLack_40 : decode b_Cover_leastLack 40 = .ok (.iload 6, 2) := by decide +kernel
theorem d_Cover_leastLack_42 : decode b_Cover_leastLack 42 = .ok (.iload 7, 2) := by decide +kernel
theorem d_Cover_leastLack_44 : decode b_Cover_leastLack 44 = .ok (.ior, 1) := by decide +kernel
theorem d_Cover_leastLack_45 : decode b_Cover_leastLack 45 = .ok (.istore 8, 2) := by decide +kernel
theorem d_Cover_leastLack_47 : decode b_Cover_leastLack 47 = .ok (.aload_n 0, 1) := by decide +kernel
theorem d_Cover_leastLack_48 : decode b_Cover_leastLack 48 = .ok (.getfield 18, 3) := by decide +kernel
theorem d_Cover_leastLack_51 : decode b_Cover_leastLack 51 = .ok (.iload 8, 2) := by decide +kernel
theorem d_Cover_leastLack_53 : decode b_Cover_leastLack 53 = .ok (.aload_n 0, 1) := by decide +kernel
theorem d_Cover_leastLack_54 : decode b_Cover_leastLack 54 = .ok (.getfield 18, 3) := by decide +kernel
theorem d_Cover_leastLack_57 : decode b_Cover_leastLack 57 = .ok (.iload 7, 2) := by decide +kernel
theorem d_Cover_leastLack_59 : decode b_Cover_leastLack 59 = .ok (.iaload, 1) := by decide +kernel
theorem d_Cover_leastLack_60 : decode b_Cover_leastLack 60 = .ok (.aload_n 0, 1) := by decide +kernel
theorem d_Cover_leastLack_61 : decode b_Cover_leastLack 61 = .ok (.getfield 9, 3) := by decide +kernel
theorem d_Cover_leastLack_64 : decode b_Cover_leastLack 64 = .ok (.iload 5, 2) := by decide +kernel
theorem d_Cover_leastLack_66 : decode b_Cover_leastLack 66 = .ok (.iaload, 1) := by decide +kernel
theorem d_Cover_leastLack_67 : decode b_Cover_leastLack 67 = .ok (.ior, 1) := by decide +kernel
theorem d_Cover_leastLack_68 : decode b_Cover_leastLack 68 = .ok (.iastore, 1) := by decide +kernel
theorem d_Cover_leastLack_69 : decode b_Cover_leastLack 69 = .ok (.iload 8, 2) := by decide +kernel
theorem d_Cover_leastLack_71 : decode b_Cover_leastLack 71 = .ok (.invokestatic 54, 3) := by decide +kernel
theorem d_Cover_leastLack_74 : decode b_Cover_leastLack 74 = .ok (.istore 9, 2) := by decide +kernel
theorem d_Cover_leastLack_76 : decode b_Cover_leastLack 76 = .ok (.iload 8, 2) := by decide +kernel
theorem d_Cover_leastLack_78 : decode b_Cover_leastLack 78 = .ok (.aload_n 1, 1) := by decide +kernel
theorem d_Cover_leastLack_79 : decode b_Cover_leastLack 79 = .ok (.getfield 60, 3) := by decide +kernel
theorem d_Cover_leastLack_82 : decode b_Cover_leastLack 82 = .ok (.iconst (-1), 1) := by decide +kernel
theorem d_Cover_leastLack_83 : decode b_Cover_leastLack 83 = .ok (.ixor, 1) := by decide +kernel
theorem d_Cover_leastLack_84 : decode b_Cover_leastLack 84 = .ok (.iand, 1) := by decide +kernel
theorem d_Cover_leastLack_85 : decode b_Cover_leastLack 85 = .ok (.ifCond .ne 32, 3) := by decide +kernel
theorem d_Cover_leastLack_88 : decode b_Cover_leastLack 88 = .ok (.iload 9, 2) := by decide +kernel
theorem d_Cover_leastLack_90 : decode b_Cover_leastLack 90 = .ok (.iload 4, 2) := by decide +kernel
theorem d_Cover_leastLack_92 : decode b_Cover_leastLack 92 = .ok (.if_icmp .ge 25, 3) := by decide +kernel
theorem d_Cover_leastLack_95 : decode b_Cover_leastLack 95 = .ok (.iload 9, 2) := by decide +kernel
theorem d_Cover_leastLack_97 : decode b_Cover_leastLack 97 = .ok (.aload_n 0, 1) := by decide +kernel
theorem d_Cover_leastLack_98 : decode b_Cover_leastLack 98 = .ok (.getfield 18, 3) := by decide +kernel
theorem d_Cover_leastLack_101 : decode b_Cover_leastLack 101 = .ok (.iload 8, 2) := by decide +kernel
theorem d_Cover_leastLack_103 : decode b_Cover_leastLack 103 = .ok (.iaload, 1) := by decide +kernel
theorem d_Cover_leastLack_104 : decode b_Cover_leastLack 104 = .ok (.invokestatic 54, 3) := by decide +kernel
theorem d_Cover_leastLack_107 : decode b_Cover_leastLack 107 = .ok (.if_icmp .le 10, 3) := by decide +kernel
theorem d_Cover_leastLack_110 : decode b_Cover_leastLack 110 = .ok (.iload 8, 2) := by decide +kernel
theorem d_Cover_leastLack_112 : decode b_Cover_leastLack 112 = .ok (.istore_n 3, 1) := by decide +kernel
theorem d_Cover_leastLack_113 : decode b_Cover_leastLack 113 = .ok (.iload 9, 2) := by decide +kernel
theorem d_Cover_leastLack_115 : decode b_Cover_leastLack 115 = .ok (.istore 4, 2) := by decide +kernel
theorem d_Cover_leastLack_117 : decode b_Cover_leastLack 117 = .ok (.iinc 7 1, 3) := by decide +kernel
theorem d_Cover_leastLack_120 : decode b_Cover_leastLack 120 = .ok (.goto (-87), 3) := by decide +kernel
theorem d_Cover_leastLack_123 : decode b_Cover_leastLack 123 = .ok (.iinc 5 1, 3) := by decide +kernel
theorem d_Cover_leastLack_126 : decode b_Cover_leastLack 126 = .ok (.goto (-111), 3) := by decide +kernel
theorem d_Cover_leastLack_129 : decode b_Cover_leastLack 129 = .ok (.iload_n 3, 1) := by decide +kernel
theorem d_Cover_leastLack_130 : decode b_Cover_leastLack 130 = .ok (.ireturn, 1) := by decide +kernel
theorem d_Library_init_0 : decode b_Library_init 0 = .ok (.aload_n 0, 1) := by decide +kernel
theorem d_Library_init_1 : decode b_Library_init 1 = .ok (.invokespecial 3, 3) := by decide +kernel
theorem d_Library_init_4 : decode b_Library_init 4 = .ok (.aload_n 0, 1) := by decide +kernel
theorem d_Library_init_5 : decode b_Library_init 5 = .ok (.bipush 10, 2) := by decide +kernel
theorem d_Library_init_7 : decode b_Library_init 7 = .ok (.anewarray 9, 3) := by decide +kernel
theorem d_Library_init_10 : decode b_Library_init 10 = .ok (.putfield 11, 3) := by decide +kernel
theorem d_Library_init_13 : decode b_Library_init 13 = .ok (.iconst 0, 1) := by decide +kernel
theorem d_Library_init_14 : decode b_Library_init 14 = .ok (.istore_n 1, 1) := by decide +kernel
theorem d_Library_init_15 : decode b_Library_init 15 = .ok (.iload_n 1, 1) := by decide +kernel
theorem d_Library_init_16 : decode b_Library_init 16 = .ok (.bipush 10, 2) := by decide +kernel
theorem d_Library_init_18 : decode b_Library_init 18 = .ok (.if_icmp .ge 22, 3) := by decide +kernel
theorem d_Library_init_21 : decode b_Library_init 21 = .ok (.aload_n 0, 1) := by decide +kernel
theorem d_Library_init_22 : decode b_Library_init 22 = .ok (.getfield 11, 3) := by decide +kernel
theorem d_Library_init_25 : decode b_Library_init 25 = .ok (.iload_n 1, 1) := by decide +kernel
theorem d_Library_init_26 : decode b_Library_init 26 = .ok (.new 9, 3) := by decide +kernel
theorem d_Library_init_29 : decode b_Library_init 29 = .ok (.dup, 1) := by decide +kernel
theorem d_Library_init_30 : decode b_Library_init 30 = .ok (.invokespecial 17, 3) := by decide +kernel
theorem d_Library_init_33 : decode b_Library_init 33 = .ok (.aastore, 1) := by decide +kernel
theorem d_Library_init_34 : decode b_Library_init 34 = .ok (.iinc 1 1, 3) := by decide +kernel
theorem d_Library_init_37 : decode b_Library_init 37 = .ok (.goto (-22), 3) := by decide +kernel
theorem d_Library_init_40 : decode b_Library_init 40 = .ok (.return_, 1) := by decide +kernel
theorem d_Library_find_0 : decode b_Library_find 0 = .ok (.iload_n 1, 1) := by decide +kernel
theorem d_Library_find_1 : decode b_Library_find 1 = .ok (.ifCond .lt 20, 3) := by decide +kernel
theorem d_Library_find_4 : decode b_Library_find 4 = .ok (.iload_n 1, 1) := by decide +kernel
theorem d_Library_find_5 : decode b_Library_find 5 = .ok (.aload_n 0, 1) := by decide +kernel
theorem d_Library_find_6 : decode b_Library_find 6 = .ok (.getfield 18, 3) := by decide +kernel
theorem d_Library_find_9 : decode b_Library_find 9 = .ok (.if_icmp .ge 12, 3) := by decide +kernel
theorem d_Library_find_12 : decode b_Library_find 12 = .ok (.aload_n 0, 1) := by decide +kernel
theorem d_Library_find_13 : decode b_Library_find 13 = .ok (.getfield 11, 3) := by decide +kernel
theorem d_Library_find_16 : decode b_Library_find 16 = .ok (.iload_n 1, 1) := by decide +kernel
theorem d_Library_find_17 : decode b_Library_find 17 = .ok (.aaload, 1) := by decide +kernel
theorem d_Library_find_18 : decode b_Library_find 18 = .ok (.goto 4, 3) := by decide +kernel
theorem d_Library_find_21 : decode b_Library_find 21 = .ok (.aconst_null, 1) := by decide +kernel
theorem d_Library_find_22 : decode b_Library_find 22 = .ok (.areturn, 1) := by decide +kernel
theorem d_Library_readText_0 : decode b_Library_readText 0 = .ok (.aload_n 0, 1) := by decide +kernel
theorem d_Library_readText_1 : decode b_Library_readText 1 = .ok (.iconst 0, 1) := by decide +kernel
theorem d_Library_readText_2 : decode b_Library_readText 2 = .ok (.putfield 22, 3) := by decide +kernel
theorem d_Library_readText_5 : decode b_Library_readText 5 = .ok (.aload_n 1, 1) := by decide +kernel
theorem d_Library_readText_6 : decode b_Library_readText 6 = .ok (.iconst 2, 1) := by decide +kernel
theorem d_Library_readText_7 : decode b_Library_readText 7 = .ok (.invokevirtual 25, 3) := by decide +kernel
theorem d_Library_readText_10 : decode b_Library_readText 10 = .ok (.iconst 0, 1) := by decide +kernel
theorem d_Library_readText_11 : decode b_Library_readText 11 = .ok (.istore_n 2, 1) := by decide +kernel
theorem d_Library_readText_12 : decode b_Library_readText 12 = .ok (.iload_n 2, 1) := by decide +kernel
theorem d_Library_readText_13 : decode b_Library_readText 13 = .ok (.sipush 800, 3) := by decide +kernel
theorem d_Library_readText_16 : decode b_Library_readText 16 = .ok (.if_icmp .ge 23, 3) := by decide +kernel
theorem d_Library_readText_19 : decode b_Library_readText 19 = .ok (.aload_n 1, 1) := by decide +kernel
theorem d_Library_readText_20 : decode b_Library_readText 20 = .ok (.ldc 31, 2) := by decide +kernel
theorem d_Library_readText_22 : decode b_Library_readText 22 = .ok (.invokevirtual 33, 3) := by decide +kernel
theorem d_Library_readText_25 : decode b_Library_readText 25 = .ok (.ifCond .eq 14, 3) := by decide +kernel
theorem d_Library_readText_28 : decode b_Library_readText 28 = .ok (.aload_n 0, 1) := by decide +kernel
theorem d_Library_readText_29 : decode b_Library_readText 29 = .ok (.aload_n 1, 1) := by decide +kernel
theorem d_Library_readText_30 : decode b_Library_readText 30 = .ok (.invokevirtual 37, 3) := by decide +kernel
theorem d_Library_readText_33 : decode b_Library_readText 33 = .ok (.iinc 2 1, 3) := by decide +kernel
theorem d_Library_readText_36 : decode b_Library_readText 36 = .ok (.goto (-24), 3) := by decide +kernel
theorem d_Library_readText_39 : decode b_Library_readText 39 = .ok (.aload_n 1, 1) := by decide +kernel
theorem d_Library_readText_40 : decode b_Library_readText 40 = .ok (.invokevirtual 41, 3) := by decide +kernel
theorem d_Library_readText_43 : decode b_Library_readText 43 = .ok (.ifCond .ne 5, 3) := by decide +kernel
theorem d_Library_readText_46 : decode b_Library_readText 46 = .ok (.iconst 0, 1) := by decide +kernel
theorem d_Library_readText_47 : decode b_Library_readText 47 = .ok (.ireturn, 1) := by decide +kernel
theorem d_Library_readText_48 : decode b_Library_readText 48 = .ok (.aload_n 0, 1) := by decide +kernel
theorem d_Library_readText_49 : decode b_Library_readText 49 = .ok (.dup, 1) := by decide +kernel
theorem d_Library_readText_50 : decode b_Library_readText 50 = .ok (.getfield 18, 3) := by decide +kernel
theorem d_Library_readText_53 : decode b_Library_readText 53 = .ok (.aload_n 0, 1) := by decide +kernel
theorem d_Library_readText_54 : decode b_Library_readText 54 = .ok (.getfield 22, 3) := by decide +kernel
theorem d_Library_readText_57 : decode b_Library_readText 57 = .ok (.iadd, 1) := by decide +kernel
theorem d_Library_readText_58 : decode b_Library_readText 58 = .ok (.putfield 18, 3) := by decide +kernel
theorem d_Library_readText_61 : decode b_Library_readText 61 = .ok (.iconst 1, 1) := by decide +kernel
theorem d_Library_readText_62 : decode b_Library_readText 62 = .ok (.ireturn, 1) := by decide +kernel
theorem d_Library_readPiece_0 : decode b_Library_readPiece 0 = .ok (.aload_n 0, 1) := by decide +kernel
theorem d_Library_readPiece_1 : decode b_Library_readPiece 1 = .ok (.getfield 18, 3) := by decide +kernel
theorem d_Library_readPiece_4 : decode b_Library_readPiece 4 = .ok (.aload_n 0, 1) := by decide +kernel
theorem d_Library_readPiece_5 : decode b_Library_readPiece 5 = .ok (.getfield 22, 3) := by decide +kernel
theorem d_Library_readPiece_8 : decode b_Library_readPiece 8 = .ok (.iadd, 1) := by decide +kernel
theorem d_Library_readPiece_9 : decode b_Library_readPiece 9 = .ok (.bipush 10, 2) := by decide +kernel
theorem d_Library_readPiece_11 : decode b_Library_readPiece 11 = .ok (.if_icmp .lt 9, 3) := by decide +kernel
theorem d_Library_readPiece_14 : decode b_Library_readPiece 14 = .ok (.aload_n 1, 1) := by decide +kernel
theorem d_Library_readPiece_15 : decode b_Library_readPiece 15 = .ok (.iconst 4, 1) := by decide +kernel
theorem d_Library_readPiece_16 : decode b_Library_readPiece 16 = .ok (.invokevirtual 45, 3) := by decide +kernel
theorem d_Library_readPiece_19 : decode b_Library_readPiece 19 = .ok (.return_, 1) := by decide +kernel
theorem d_Library_readPiece_20 : decode b_Library_readPiece 20 = .ok (.aload_n 0, 1) := by decide +kernel
theorem d_Library_readPiece_21 : decode b_Library_readPiece 21 = .ok (.getfield 11, 3) := by decide +kernel
theorem d_Library_readPiece_24 : decode b_Library_readPiece 24 = .ok (.aload_n 0, 1) := by decide +kernel
theorem d_Library_readPiece_25 : decode b_Library_readPiece 25 = .ok (.getfield 18, 3) := by decide +kernel
theorem d_Library_readPiece_28 : decode b_Library_readPiece 28 = .ok (.aload_n 0, 1) := by decide +kernel
theorem d_Library_readPiece_29 : decode b_Library_readPiece 29 = .ok (.getfield 22, 3) := by decide +kernel
theorem d_Library_readPiece_32 : decode b_Library_readPiece 32 = .ok (.iadd, 1) := by decide +kernel
theorem d_Library_readPiece_33 : decode b_Library_readPiece 33 = .ok (.aaload, 1) := by decide +kernel
theorem d_Library_readPiece_34 : decode b_Library_readPiece 34 = .ok (.astore_n 2, 1) := by decide +kernel
theorem d_Library_readPiece_35 : decode b_Library_readPiece 35 = .ok (.aload_n 2, 1) := by decide +kernel
theorem d_Library_readPiece_36 : decode b_Library_readPiece 36 = .ok (.invokevirtual 48, 3) := by decide +kernel
theorem d_Library_readPiece_39 : decode b_Library_readPiece 39 = .ok (.aload_n 1, 1) := by decide +kernel
theorem d_Library_readPiece_40 : decode b_Library_readPiece 40 = .ok (.invokevirtual 51, 3) := by decide +kernel
theorem d_Library_readPiece_43 : decode b_Library_readPiece 43 = .ok (.aload_n 2, 1) := by decide +kernel
theorem d_Library_readPiece_44 : decode b_Library_readPiece 44 = .ok (.aload_n 0, 1) := by decide +kernel
theorem d_Library_readPiece_45 : decode b_Library_readPiece 45 = .ok (.aload_n 1, 1) := by decide +kernel
theorem d_Library_readPiece_46 : decode b_Library_readPiece 46 = .ok (.invokevirtual 54, 3) := by decide +kernel
theorem d_Library_readPiece_49 : decode b_Library_readPiece 49 = .ok (.putfield 58, 3) := by decide +kernel
theorem d_Library_readPiece_52 : decode b_Library_readPiece 52 = .ok (.aload_n 1, 1) := by decide +kernel
theorem d_Library_readPiece_53 : decode b_Library_readPiece 53 = .ok (.bipush 58, 2) := by decide +kernel
theorem d_Library_readPiece_55 : decode b_Library_readPiece 55 = .ok (.invokevirtual 61, 3) := by decide +kernel
theorem d_Library_readPiece_58 : decode b_Library_readPiece 58 = .ok (.aload_n 2, 1) := by decide +kernel
theorem d_Library_readPiece_59 : decode b_Library_readPiece 59 = .ok (.aload_n 1, 1) := by decide +kernel
theorem d_Library_readPiece_60 : decode b_Library_readPiece 60 = .ok (.iconst 1, 1) := by decide +kernel
theorem d_Library_readPiece_61 : decode b_Library_readPiece 61 = .ok (.bipush 60, 2) := by decide +kernel
theorem d_Library_readPiece_63 : decode b_Library_readPiece 63 = .ok (.invokestatic 64, 3) := by decide +kernel
theorem d_Library_readPiece_66 : decode b_Library_readPiece 66 = .ok (.putfield 68, 3) := by decide +kernel
theorem d_Library_readPiece_69 : decode b_Library_readPiece 69 = .ok (.aload_n 2, 1) := by decide +kernel
theorem d_Library_readPiece_70 : decode b_Library_readPiece 70 = .ok (.aload_n 1, 1) := by decide +kernel
theorem d_Library_readPiece_71 : decode b_Library_readPiece 71 = .ok (.iconst 0, 1) := by decide +kernel
theorem d_Library_readPiece_72 : decode b_Library_readPiece 72 = .ok (.bipush 9, 2) := by decide +kernel
theorem d_Library_readPiece_74 : decode b_Library_readPiece 74 = .ok (.invokestatic 64, 3) := by decide +kernel
theorem d_Library_readPiece_77 : decode b_Library_readPiece 77 = .ok (.putfield 71, 3) := by decide +kernel
theorem d_Library_readPiece_80 : decode b_Library_readPiece 80 = .ok (.aload_n 2, 1) := by decide +kernel
theorem d_Library_readPiece_81 : decode b_Library_readPiece 81 = .ok (.aload_n 1, 1) := by decide +kernel
theorem d_Library_readPiece_82 : decode b_Library_readPiece 82 = .ok (.iconst 0, 1) := by decide +kernel
theorem d_Library_readPiece_83 : decode b_Library_readPiece 83 = .ok (.bipush 11, 2) := by decide +kernel
theorem d_Library_readPiece_85 : decode b_Library_readPiece 85 = .ok (.invokestatic 64, 3) := by decide +kernel
theorem d_Library_readPiece_88 : decode b_Library_readPiece 88 = .ok (.putfield 74, 3) := by decide +kernel
theorem d_Library_readPiece_91 : decode b_Library_readPiece 91 = .ok (.iconst 0, 1) := by decide +kernel
theorem d_Library_readPiece_92 : decode b_Library_readPiece 92 = .ok (.istore_n 3, 1) := by decide +kernel
theorem d_Library_readPiece_93 : decode b_Library_readPiece 93 = .ok (.iload_n 3, 1) := by decide +kernel
theorem d_Library_readPiece_94 : decode b_Library_readPiece 94 = .ok (.sipush 800, 3) := by decide +kernel
theorem d_Library_readPiece_97 : decode b_Library_readPiece 97 = .ok (.if_icmp .ge 23, 3) := by decide +kernel
theorem d_Library_readPiece_100 : decode b_Library_readPiece 100 = .ok (.aload_n 1, 1) := by decide +kernel
theorem d_Library_readPiece_101 : decode b_Library_readPiece 101 = .ok (.getfield 77, 3) := by decide +kernel
theorem d_Library_readPiece_104 : decode b_Library_readPiece 104 = .ok (.bipush 44, 2) := by decide +kernel
theorem d_Library_readPiece_106 : decode b_Library_readPiece 106 = .ok (.if_icmp .ne 14, 3) := by decide +kernel
theorem d_Library_readPiece_109 : decode b_Library_readPiece 109 = .ok (.aload_n 1, 1) := by decide +kernel
theorem d_Library_readPiece_110 : decode b_Library_readPiece 110 = .ok (.aload_n 2, 1) := by decide +kernel
theorem d_Library_readPiece_111 : decode b_Library_readPiece 111 = .ok (.invokestatic 80, 3) := by decide +kernel
theorem d_Library_readPiece_114 : decode b_Library_readPiece 114 = .ok (.iinc 3 1, 3) := by decide +kernel
theorem d_Library_readPiece_117 : decode b_Library_readPiece 117 = .ok (.goto (-24), 3) := by decide +kernel
theorem d_Library_readPiece_120 : decode b_Library_readPiece 120 = .ok (.aload_n 1, 1) := by decide +kernel
theorem d_Library_readPiece_121 : decode b_Library_readPiece 121 = .ok (.bipush 59, 2) := by decide +kernel
theorem d_Library_readPiece_123 : decode b_Library_readPiece 123 = .ok (.invokevirtual 61, 3) := by decide +kernel
theorem d_Library_readPiece_126 : decode b_Library_readPiece 126 = .ok (.aload_n 0, 1) := by decide +kernel
theorem d_Library_readPiece_127 : decode b_Library_readPiece 127 = .ok (.dup, 1) := by decide +kernel
theorem d_Library_readPiece_128 : decode b_Library_readPiece 128 = .ok (.getfield 22, 3) := by decide +kernel
theorem d_Library_readPiece_131 : decode b_Library_readPiece 131 = .ok (.iconst 1, 1) := by decide +kernel
theorem d_Library_readPiece_132 : decode b_Library_readPiece 132 = .ok (.iadd, 1) := by decide +kernel
theorem d_Library_readPiece_133 : decode b_Library_readPiece 133 = .ok (.putfield 22, 3) := by decide +kernel
theorem d_Library_readPiece_136 : decode b_Library_readPiece 136 = .ok (.return_, 1) := by decide +kernel
theorem d_Library_readName_0 : decode b_Library_readName 0 = .ok (.aload_n 1, 1) := by decide +kernel
theorem d_Library_readName_1 : decode b_Library_readName 1 = .ok (.getfield 84, 3) := by decide +kernel
theorem d_Library_readName_4 : decode b_Library_readName 4 = .ok (.istore_n 2, 1) := by decide +kernel
theorem d_Library_readName_5 : decode b_Library_readName 5 = .ok (.aload_n 1, 1) := by decide +kernel
theorem d_Library_readName_6 : decode b_Library_readName 6 = .ok (.getfield 77, 3) := by decide +kernel
theorem d_Library_readName_9 : decode b_Library_readName 9 = .ok (.bipush (-3), 2) := by decide +kernel
theorem d_Library_readName_11 : decode b_Library_readName 11 = .ok (.if_icmp .ne 10, 3) := by decide +kernel
theorem d_Library_readName_14 : decode b_Library_readName 14 = .ok (.aload_n 1, 1) := by decide +kernel
theorem d_Library_readName_15 : decode b_Library_readName 15 = .ok (.invokestatic 87, 3) := by decide +kernel
theorem d_Library_readName_18 : decode b_Library_readName 18 = .ok (.ifCond .eq 11, 3) := by decide +kernel
theorem d_Library_readName_21 : decode b_Library_readName 21 = .ok (.aload_n 1, 1) := by decide +kernel
theorem d_Library_readName_22 : decode b_Library_readName 22 = .ok (.iconst 1, 1) := by decide +kernel
theorem d_Library_readName_23 : decode b_Library_readName 23 = .ok (.invokevirtual 45, 3) := by decide +kernel
theorem d_Library_readName_26 : decode b_Library_readName 26 = .ok (.goto 16, 3) := by decide +kernel
theorem d_Library_readName_29 : decode b_Library_readName 29 = .ok (.aload_n 0, 1) := by decide +kernel
theorem d_Library_readName_30 : decode b_Library_readName 30 = .ok (.iload_n 2, 1) := by decide +kernel
theorem d_Library_readName_31 : decode b_Library_readName 31 = .ok (.invokevirtual 91, 3) := by decide +kernel
theorem d_Library_readName_34 : decode b_Library_readName 34 = .ok (.ifCond .eq 8, 3) := by decide +kernel
theorem d_Library_readName_37 : decode b_Library_readName 37 = .ok (.aload_n 1, 1) := by decide +kernel
theorem d_Library_readName_38 : decode b_Library_readName 38 = .ok (.iconst 2, 1) := by decide +kernel
theorem d_Library_readName_39 : decode b_Library_readName 39 = .ok (.invokevirtual 45, 3) := by decide +kernel
theorem d_Library_readName_42 : decode b_Library_readName 42 = .ok (.aload_n 1, 1) := by decide +kernel
theorem d_Library_readName_43 : decode b_Library_readName 43 = .ok (.invokevirtual 51, 3) := by decide +kernel
theorem d_Library_readName_46 : decode b_Library_readName 46 = .ok (.iload_n 2, 1) := by decide +kernel
theorem d_Library_readName_47 : decode b_Library_readName 47 = .ok (.ireturn, 1) := by decide +kernel
theorem d_Library_isWord_0 : decode b_Library_isWord 0 = .ok (.aload_n 0, 1) := by decide +kernel
theorem d_Library_isWord_1 : decode b_Library_isWord 1 = .ok (.ldc 31, 2) := by decide +kernel
theorem d_Library_isWord_3 : decode b_Library_isWord 3 = .ok (.invokevirtual 33, 3) := by decide +kernel
theorem d_Library_isWord_6 : decode b_Library_isWord 6 = .ok (.ifCond .ne 30, 3) := by decide +kernel
theorem d_Library_isWord_9 : decode b_Library_isWord 9 = .ok (.aload_n 0, 1) := by decide +kernel
theorem d_Library_isWord_10 : decode b_Library_isWord 10 = .ok (.ldc 95, 2) := by decide +kernel
theorem d_Library_isWord_12 : decode b_Library_isWord 12 = .ok (.invokevirtual 33, 3) := by decide +kernel
theorem d_Library_isWord_15 : decode b_Library_isWord 15 = .ok (.ifCond .ne 21, 3) := by decide +kernel
theorem d_Library_isWord_18 : decode b_Library_isWord 18 = .ok (.aload_n 0, 1) := by decide +kernel
theorem d_Library_isWord_19 : decode b_Library_isWord 19 = .ok (.ldc 97, 2) := by decide +kernel
theorem d_Library_isWord_21 : decode b_Library_isWord 21 = .ok (.invokevirtual 33, 3) := by decide +kernel
theorem d_Library_isWord_24 : decode b_Library_isWord 24 = .ok (.ifCond .ne 12, 3) := by decide +kernel
theorem d_Library_isWord_27 : decode b_Library_isWord 27 = .ok (.aload_n 0, 1) := by decide +kernel
theorem d_Library_isWord_28 : decode b_Library_isWord 28 = .ok (.ldc 99, 2) := by decide +kernel
theorem d_Library_isWord_30 : decode b_Library_isWord 30 = .ok (.invokevirtual 33, 3) := by decide +kernel
theorem d_Library_isWord_33 : decode b_Library_isWord 33 = .ok (.ifCond .eq 7, 3) := by decide +kernel
theorem d_Library_isWord_36 : decode b_Library_isWord 36 = .ok (.iconst 1, 1) := by decide +kernel
theorem d_Library_isWord_37 : decode b_Library_isWord 37 = .ok (.goto 4, 3) := by decide +kernel
theorem d_Library_isWord_40 : decode b_Library_isWord 40 = .ok (.iconst 0, 1) := by decide +kernel
theorem d_Library_isWord_41 : decode b_Library_isWord 41 = .ok (.ireturn, 1) := by decide +kernel
theorem d_Library_hasName_0 : decode b_Library_hasName 0 = .ok (.iconst 0, 1) := by decide +kernel
theorem d_Library_hasName_1 : decode b_Library_hasName 1 = .ok (.istore_n 2, 1) := by decide +kernel
theorem d_Library_hasName_2 : decode b_Library_hasName 2 = .ok (.iload_n 2, 1) := by decide +kernel
theorem d_Library_hasName_3 : decode b_Library_hasName 3 = .ok (.aload_n 0, 1) := by decide +kernel
theorem d_Library_hasName_4 : decode b_Library_hasName 4 = .ok (.getfield 18, 3) := by decide +kernel
theorem d_Library_hasName_7 : decode b_Library_hasName 7 = .ok (.aload_n 0, 1) := by decide +kernel
theorem d_Library_hasName_8 : decode b_Library_hasName 8 = .ok (.getfield 22, 3) := by decide +kernel
theorem d_Library_hasName_11 : decode b_Library_hasName 11 = .ok (.iadd, 1) := by decide +kernel
theorem d_Library_hasName_12 : decode b_Library_hasName 12 = .ok (.if_icmp .ge 30, 3) := by decide +kernel
theorem d_Library_hasName_15 : decode b_Library_hasName 15 = .ok (.iload_n 2, 1) := by decide +kernel
theorem d_Library_hasName_16 : decode b_Library_hasName 16 = .ok (.bipush 10, 2) := by decide +kernel
theorem d_Library_hasName_18 : decode b_Library_hasName 18 = .ok (.if_icmp .ge 24, 3) := by decide +kernel
theorem d_Library_hasName_21 : decode b_Library_hasName 21 = .ok (.aload_n 0, 1) := by decide +kernel
theorem d_Library_hasName_22 : decode b_Library_hasName 22 = .ok (.getfield 11, 3) := by decide +kernel
theorem d_Library_hasName_25 : decode b_Library_hasName 25 = .ok (.iload_n 2, 1) := by decide +kernel
theorem d_Library_hasName_26 : decode b_Library_hasName 26 = .ok (.aaload, 1) := by decide +kernel
theorem d_Library_hasName_27 : decode b_Library_hasName 27 = .ok (.getfield 58, 3) := by decide +kernel
theorem d_Library_hasName_30 : decode b_Library_hasName 30 = .ok (.iload_n 1, 1) := by decide +kernel
theorem d_Library_hasName_31 : decode b_Library_hasName 31 = .ok (.if_icmp .ne 5, 3) := by decide +kernel
theorem d_Library_hasName_34 : decode b_Library_hasName 34 = .ok (.iconst 1, 1) := by decide +kernel
theorem d_Library_hasName_35 : decode b_Library_hasName 35 = .ok (.ireturn, 1) := by decide +kernel
theorem d_Library_hasName_36 : decode b_Library_hasName 36 = .ok (.iinc 2 1, 3) := by decide +kernel
theorem d_Library_hasName_39 : decode b_Library_hasName 39 = .ok (.goto (-37), 3) := by decide +kernel
theorem d_Library_hasName_42 : decode b_Library_hasName 42 = .ok (.iconst 0, 1) := by decide +kernel
theorem d_Library_hasName_43 : decode b_Library_hasName 43 = .ok (.ireturn, 1) := by decide +kernel
theorem d_Library_readNumber_0 : decode b_Library_readNumber 0 = .ok (.aload_n 0, 1) := by decide +kernel
theorem d_Library_readNumber_1 : decode b_Library_readNumber 1 = .ok (.getfield 84, 3) := by decide +kernel
theorem d_Library_readNumber_4 : decode b_Library_readNumber 4 = .ok (.istore_n 3, 1) := by decide +kernel
theorem d_Library_readNumber_5 : decode b_Library_readNumber 5 = .ok (.aload_n 0, 1) := by decide +kernel
theorem d_Library_readNumber_6 : decode b_Library_readNumber 6 = .ok (.getfield 77, 3) := by decide +kernel
theorem d_Library_readNumber_9 : decode b_Library_readNumber 9 = .ok (.bipush (-2), 2) := by decide +kernel
theorem d_Library_readNumber_11 : decode b_Library_readNumber 11 = .ok (.if_icmp .eq 11, 3) := by decide +kernel
theorem d_Library_readNumber_14 : decode b_Library_readNumber 14 = .ok (.aload_n 0, 1) := by decide +kernel
theorem d_Library_readNumber_15 : decode b_Library_readNumber 15 = .ok (.iconst 1, 1) := by decide +kernel
theorem d_Library_readNumber_16 : decode b_Library_readNumber 16 = .ok (.invokevirtual 45, 3) := by decide +kernel
theorem d_Library_readNumber_19 : decode b_Library_readNumber 19 = .ok (.goto 17, 3) := by decide +kernel
theorem d_Library_readNumber_22 : decode b_Library_readNumber 22 = .ok (.iload_n 3, 1) := by decide +kernel
theorem d_Library_readNumber_23 : decode b_Library_readNumber 23 = .ok (.iload_n 1, 1) := by decide +kernel
theorem d_Library_readNumber_24 : decode b_Library_readNumber 24 = .ok (.iload_n 2, 1) := by decide +kernel
theorem d_Library_readNumber_25 : decode b_Library_readNumber 25 = .ok (.invokestatic 101, 3) := by decide +kernel
theorem d_Library_readNumber_28 : decode b_Library_readNumber 28 = .ok (.ifCond .ne 8, 3) := by decide +kernel
theorem d_Library_readNumber_31 : decode b_Library_readNumber 31 = .ok (.aload_n 0, 1) := by decide +kernel
theorem d_Library_readNumber_32 : decode b_Library_readNumber 32 = .ok (.iconst 3, 1) := by decide +kernel
theorem d_Library_readNumber_33 : decode b_Library_readNumber 33 = .ok (.invokevirtual 45, 3) := by decide +kernel
theorem d_Library_readNumber_36 : decode b_Library_readNumber 36 = .ok (.aload_n 0, 1) := by decide +kernel
theorem d_Library_readNumber_37 : decode b_Library_readNumber 37 = .ok (.invokevirtual 51, 3) := by decide +kernel
theorem d_Library_readNumber_40 : decode b_Library_readNumber 40 = .ok (.iload_n 3, 1) := by decide +kernel
theorem d_Library_readNumber_41 : decode b_Library_readNumber 41 = .ok (.ireturn, 1) := by decide +kernel
theorem d_Library_readPart_0 : decode b_Library_readPart 0 = .ok (.aload_n 1, 1) := by decide +kernel
theorem d_Library_readPart_1 : decode b_Library_readPart 1 = .ok (.getfield 105, 3) := by decide +kernel
theorem d_Library_readPart_4 : decode b_Library_readPart 4 = .ok (.bipush 10, 2) := by decide +kernel
theorem d_Library_readPart_6 : decode b_Library_readPart 6 = .ok (.if_icmp .lt 9, 3) := by decide +kernel
theorem d_Library_readPart_9 : decode b_Library_readPart 9 = .ok (.aload_n 0, 1) := by decide +kernel
theorem d_Library_readPart_10 : decode b_Library_readPart 10 = .ok (.iconst 4, 1) := by decide +kernel
theorem d_Library_readPart_11 : decode b_Library_readPart 11 = .ok (.invokevirtual 45, 3) := by decide +kernel
theorem d_Library_readPart_14 : decode b_Library_readPart 14 = .ok (.return_, 1) := by decide +kernel
theorem d_Library_readPart_15 : decode b_Library_readPart 15 = .ok (.aload_n 0, 1) := by decide +kernel
theorem d_Library_readPart_16 : decode b_Library_readPart 16 = .ok (.invokevirtual 51, 3) := by decide +kernel
theorem d_Library_readPart_19 : decode b_Library_readPart 19 = .ok (.aload_n 0, 1) := by decide +kernel
theorem d_Library_readPart_20 : decode b_Library_readPart 20 = .ok (.ldc 95, 2) := by decide +kernel
theorem d_Library_readPart_22 : decode b_Library_readPart 22 = .ok (.invokevirtual 33, 3) := by decide +kernel
theorem d_Library_readPart_25 : decode b_Library_readPart 25 = .ok (.istore_n 2, 1) := by decide +kernel
theorem d_Library_readPart_26 : decode b_Library_readPart 26 = .ok (.iload_n 2, 1) := by decide +kernel
theorem d_Library_readPart_27 : decode b_Library_readPart 27 = .ok (.ifCond .ne 17, 3) := by decide +kernel
theorem d_Library_readPart_30 : decode b_Library_readPart 30 = .ok (.aload_n 0, 1) := by decide +kernel
theorem d_Library_readPart_31 : decode b_Library_readPart 31 = .ok (.ldc 97, 2) := by decide +kernel
theorem d_Library_readPart_33 : decode b_Library_readPart 33 = .ok (.invokevirtual 33, 3) := by decide +kernel
theorem d_Library_readPart_36 : decode b_Library_readPart 36 = .ok (.ifCond .ne 8, 3) := by decide +kernel
theorem d_Library_readPart_39 : decode b_Library_readPart 39 = .ok (.aload_n 0, 1) := by decide +kernel
theorem d_Library_readPart_40 : decode b_Library_readPart 40 = .ok (.iconst 1, 1) := by decide +kernel
theorem d_Library_readPart_41 : decode b_Library_readPart 41 = .ok (.invokevirtual 45, 3) := by decide +kernel
theorem d_Library_readPart_44 : decode b_Library_readPart 44 = .ok (.aload_n 0, 1) := by decide +kernel
theorem d_Library_readPart_45 : decode b_Library_readPart 45 = .ok (.invokevirtual 51, 3) := by decide +kernel
theorem d_Library_readPart_48 : decode b_Library_readPart 48 = .ok (.aload_n 1, 1) := by decide +kernel
theorem d_Library_readPart_49 : decode b_Library_readPart 49 = .ok (.iload_n 2, 1) := by decide +kernel
theorem d_Library_readPart_50 : decode b_Library_readPart 50 = .ok (.invokevirtual 108, 3) := by decide +kernel
theorem d_Library_readPart_53 : decode b_Library_readPart 53 = .ok (.aload_n 0, 1) := by decide +kernel
theorem d_Library_readPart_54 : decode b_Library_readPart 54 = .ok (.aload_n 1, 1) := by decide +kernel
theorem d_Library_readPart_55 : decode b_Library_readPart 55 = .ok (.aload_n 1, 1) := by decide +kernel
theorem d_Library_readPart_56 : decode b_Library_readPart 56 = .ok (.getfield 105, 3) := by decide +kernel
theorem d_Library_readPart_59 : decode b_Library_readPart 59 = .ok (.iconst 1, 1) := by decide +kernel
theorem d_Library_readPart_60 : decode b_Library_readPart 60 = .ok (.isub, 1) := by decide +kernel
theorem d_Library_readPart_61 : decode b_Library_readPart 61 = .ok (.invokestatic 112, 3) := by decide +kernel
theorem d_Library_readPart_64 : decode b_Library_readPart 64 = .ok (.iconst 1, 1) := by decide +kernel
theorem d_Library_readPart_65 : decode b_Library_readPart 65 = .ok (.istore_n 3, 1) := by decide +kernel
theorem d_Library_readPart_66 : decode b_Library_readPart 66 = .ok (.iload_n 3, 1) := by decide +kernel
theorem d_Library_readPart_67 : decode b_Library_readPart 67 = .ok (.iconst 4, 1) := by decide +kernel
theorem d_Library_readPart_68 : decode b_Library_readPart 68 = .ok (.if_icmp .gt 43, 3) := by decide +kernel
theorem d_Library_readPart_71 : decode b_Library_readPart 71 = .ok (.aload_n 0, 1) := by decide +kernel
theorem d_Library_readPart_72 : decode b_Library_readPart 72 = .ok (.ldc 99, 2) := by decide +kernel
theorem d_Library_readPart_74 : decode b_Library_readPart 74 = .ok (.invokevirtual 33, 3) := by decide +kernel
theorem d_Library_readPart_77 : decode b_Library_readPart 77 = .ok (.ifCond .eq 34, 3) := by decide +kernel
theorem d_Library_readPart_80 : decode b_Library_readPart 80 = .ok (.iload_n 3, 1) := by decide +kernel
theorem d_Library_readPart_81 : decode b_Library_readPart 81 = .ok (.iconst 4, 1) := by decide +kernel
theorem d_Library_readPart_82 : decode b_Library_readPart 82 = .ok (.if_icmp .ne 8, 3) := by decide +kernel
theorem d_Library_readPart_85 : decode b_Library_readPart 85 = .ok (.aload_n 0, 1) := by decide +kernel
theorem d_Library_readPart_86 : decode b_Library_readPart 86 = .ok (.iconst 4, 1) := by decide +kernel
theorem d_Library_readPart_87 : decode b_Library_readPart 87 = .ok (.invokevirtual 45, 3) := by decide +kernel
theorem d_Library_readPart_90 : decode b_Library_readPart 90 = .ok (.aload_n 0, 1) := by decide +kernel
theorem d_Library_readPart_91 : decode b_Library_readPart 91 = .ok (.invokevirtual 51, 3) := by decide +kernel
theorem d_Library_readPart_94 : decode b_Library_readPart 94 = .ok (.aload_n 0, 1) := by decide +kernel
theorem d_Library_readPart_95 : decode b_Library_readPart 95 = .ok (.aload_n 1, 1) := by decide +kernel
theorem d_Library_readPart_96 : decode b_Library_readPart 96 = .ok (.aload_n 1, 1) := by decide +kernel
theorem d_Library_readPart_97 : decode b_Library_readPart 97 = .ok (.getfield 105, 3) := by decide +kernel
theorem d_Library_readPart_100 : decode b_Library_readPart 100 = .ok (.iconst 1, 1) := by decide +kernel
theorem d_Library_readPart_101 : decode b_Library_readPart 101 = .ok (.isub, 1) := by decide +kernel
theorem d_Library_readPart_102 : decode b_Library_readPart 102 = .ok (.invokestatic 112, 3) := by decide +kernel
theorem d_Library_readPart_105 : decode b_Library_readPart 105 = .ok (.iinc 3 1, 3) := by decide +kernel
theorem d_Library_readPart_108 : decode b_Library_readPart 108 = .ok (.goto (-42), 3) := by decide +kernel
theorem d_Library_readPart_111 : decode b_Library_readPart 111 = .ok (.return_, 1) := by decide +kernel
theorem d_Library_readInstrument_0 : decode b_Library_readInstrument 0 = .ok (.aload_n 0, 1) := by decide +kernel
theorem d_Library_readInstrument_1 : decode b_Library_readInstrument 1 = .ok (.getfield 77, 3) := by decide +kernel
theorem d_Library_readInstrument_4 : decode b_Library_readInstrument 4 = .ok (.bipush (-2), 2) := by decide +kernel
theorem d_Library_readInstrument_6 : decode b_Library_readInstrument 6 = .ok (.if_icmp .ne 20, 3) := by decide +kernel
theorem d_Library_readInstrument_9 : decode b_Library_readInstrument 9 = .ok (.aload_n 1, 1) := by decide +kernel
theorem d_Library_readInstrument_10 : decode b_Library_readInstrument 10 = .ok (.iload_n 2, 1) := by decide +kernel
theorem d_Library_readInstrument_11 : decode b_Library_readInstrument 11 = .ok (.aload_n 0, 1) := by decide +kernel
theorem d_Library_readInstrument_12 : decode b_Library_readInstrument 12 = .ok (.getfield 84, 3) := by decide +kernel
theorem d_Library_readInstrument_15 : decode b_Library_readInstrument 15 = .ok (.invokevirtual 116, 3) := by decide +kernel
theorem d_Library_readInstrument_18 : decode b_Library_readInstrument 18 = .ok (.ifCond .eq 8, 3) := by decide +kernel
theorem d_Library_readInstrument_21 : decode b_Library_readInstrument 21 = .ok (.aload_n 0, 1) := by decide +kernel
theorem d_Library_readInstrument_22 : decode b_Library_readInstrument 22 = .ok (.iconst 3, 1) := by decide +kernel
theorem d_Library_readInstrument_23 : decode b_Library_readInstrument 23 = .ok (.invokevirtual 45, 3) := by decide +kernel
theorem d_Library_readInstrument_26 : decode b_Library_readInstrument 26 = .ok (.aload_n 1, 1) := by decide +kernel
theorem d_Library_readInstrument_27 : decode b_Library_readInstrument 27 = .ok (.iload_n 2, 1) := by decide +kernel
theorem d_Library_readInstrument_28 : decode b_Library_readInstrument 28 = .ok (.aload_n 0, 1) := by decide +kernel
theorem d_Library_readInstrument_29 : decode b_Library_readInstrument 29 = .ok (.iconst 0, 1) := by decide +kernel
theorem d_Library_readInstrument_30 : decode b_Library_readInstrument 30 = .ok (.bipush 9, 2) := by decide +kernel
theorem d_Library_readInstrument_32 : decode b_Library_readInstrument 32 = .ok (.invokestatic 64, 3) := by decide +kernel
theorem d_Library_readInstrument_35 : decode b_Library_readInstrument 35 = .ok (.invokevirtual 120, 3) := by decide +kernel
theorem d_Library_readInstrument_38 : decode b_Library_readInstrument 38 = .ok (.return_, 1) := by decide +kernel
theorem d_Loans_init_0 : decode b_Loans_init 0 = .ok (.aload_n 0, 1) := by decide +kernel
theorem d_Loans_init_1 : decode b_Loans_init 1 = .ok (.invokespecial 3, 3) := by decide +kernel
theorem d_Loans_init_4 : decode b_Loans_init 4 = .ok (.aload_n 0, 1) := by decide +kernel
theorem d_Loans_init_5 : decode b_Loans_init 5 = .ok (.sipush 200, 3) := by decide +kernel
theorem d_Loans_init_8 : decode b_Loans_init 8 = .ok (.newarray .int, 2) := by decide +kernel
theorem d_Loans_init_10 : decode b_Loans_init 10 = .ok (.putfield 9, 3) := by decide +kernel
theorem d_Loans_init_13 : decode b_Loans_init 13 = .ok (.aload_n 0, 1) := by decide +kernel
theorem d_Loans_init_14 : decode b_Loans_init 14 = .ok (.sipush 200, 3) := by decide +kernel
theorem d_Loans_init_17 : decode b_Loans_init 17 = .ok (.newarray .int, 2) := by decide +kernel
theorem d_Loans_init_19 : decode b_Loans_init 19 = .ok (.putfield 15, 3) := by decide +kernel
theorem d_Loans_init_22 : decode b_Loans_init 22 = .ok (.aload_n 0, 1) := by decide +kernel
theorem d_Loans_init_23 : decode b_Loans_init 23 = .ok (.sipush 200, 3) := by decide +kernel
theorem d_Loans_init_26 : decode b_Loans_init 26 = .ok (.newarray .int, 2) := by decide +kernel
theorem d_Loans_init_28 : decode b_Loans_init 28 = .ok (.putfield 18, 3) := by decide +kernel
theorem d_Loans_init_31 : decode b_Loans_init 31 = .ok (.aload_n 0, 1) := by decide +kernel
theorem d_Loans_init_32 : decode b_Loans_init 32 = .ok (.bipush 30, 2) := by decide +kernel
theorem d_Loans_init_34 : decode b_Loans_init 34 = .ok (.newarray .int, 2) := by decide +kernel
theorem d_Loans_init_36 : decode b_Loans_init 36 = .ok (.putfield 21, 3) := by decide +kernel
theorem d_Loans_init_39 : decode b_Loans_init 39 = .ok (.aload_n 0, 1) := by decide +kernel
theorem d_Loans_init_40 : decode b_Loans_init 40 = .ok (.bipush 30, 2) := by decide +kernel
theorem d_Loans_init_42 : decode b_Loans_init 42 = .ok (.newarray .int, 2) := by decide +kernel
theorem d_Loans_init_44 : decode b_Loans_init 44 = .ok (.putfield 24, 3) := by decide +kernel
theorem d_Loans_init_47 : decode b_Loans_init 47 = .ok (.return_, 1) := by decide +kernel
theorem d_Loans_note_0 : decode b_Loans_note 0 = .ok (.aload_n 0, 1) := by decide +kernel
theorem d_Loans_note_1 : decode b_Loans_note 1 = .ok (.getfield 27, 3) := by decide +kernel
theorem d_Loans_note_4 : decode b_Loans_note 4 = .ok (.sipush 200, 3) := by decide +kernel
theorem d_Loans_note_7 : decode b_Loans_note 7 = .ok (.if_icmp .lt 5, 3) := by decide +kernel
theorem d_Loans_note_10 : decode b_Loans_note 10 = .ok (.iconst (-1), 1) := by decide +kernel
theorem d_Loans_note_11 : decode b_Loans_note 11 = .ok (.ireturn, 1) := by decide +kernel
theorem d_Loans_note_12 : decode b_Loans_note 12 = .ok (.aload_n 0, 1) := by decide +kernel
theorem d_Loans_note_13 : decode b_Loans_note 13 = .ok (.getfield 9, 3) := by decide +kernel
theorem d_Loans_note_16 : decode b_Loans_note 16 = .ok (.aload_n 0, 1) := by decide +kernel
theorem d_Loans_note_17 : decode b_Loans_note 17 = .ok (.getfield 27, 3) := by decide +kernel
theorem d_Loans_note_20 : decode b_Loans_note 20 = .ok (.iload_n 1, 1) := by decide +kernel
theorem d_Loans_note_21 : decode b_Loans_note 21 = .ok (.iastore, 1) := by decide +kernel
theorem d_Loans_note_22 : decode b_Loans_note 22 = .ok (.aload_n 0, 1) := by decide +kernel
theorem d_Loans_note_23 : decode b_Loans_note 23 = .ok (.getfield 15, 3) := by decide +kernel
theorem d_Loans_note_26 : decode b_Loans_note 26 = .ok (.aload_n 0, 1) := by decide +kernel
theorem d_Loans_note_27 : decode b_Loans_note 27 = .ok (.getfield 27, 3) := by decide +kernel
theorem d_Loans_note_30 : decode b_Loans_note 30 = .ok (.iload_n 2, 1) := by decide +kernel
theorem d_Loans_note_31 : decode b_Loans_note 31 = .ok (.iastore, 1) := by decide +kernel
theorem d_Loans_note_32 : decode b_Loans_note 32 = .ok (.aload_n 0, 1) := by decide +kernel
theorem d_Loans_note_33 : decode b_Loans_note 33 = .ok (.getfield 18, 3) := by decide +kernel
theorem d_Loans_note_36 : decode b_Loans_note 36 = .ok (.aload_n 0, 1) := by decide +kernel
theorem d_Loans_note_37 : decode b_Loans_note 37 = .ok (.getfield 27, 3) := by decide +kernel
theorem d_Loans_note_40 : decode b_Loans_note 40 = .ok (.iload_n 3, 1) := by decide +kernel
theorem d_Loans_note_41 : decode b_Loans_note 41 = .ok (.iastore, 1) := by decide +kernel
theorem d_Loans_note_42 : decode b_Loans_note 42 = .ok (.aload_n 0, 1) := by decide +kernel
theorem d_Loans_note_43 : decode b_Loans_note 43 = .ok (.dup, 1) := by decide +kernel
theorem d_Loans_note_44 : decode b_Loans_note 44 = .ok (.getfield 27, 3) := by decide +kernel
theorem d_Loans_note_47 : decode b_Loans_note 47 = .ok (.iconst 1, 1) := by decide +kernel
theorem d_Loans_note_48 : decode b_Loans_note 48 = .ok (.iadd, 1) := by decide +kernel
theorem d_Loans_note_49 : decode b_Loans_note 49 = .ok (.putfield 27, 3) := by decide +kernel
theorem d_Loans_note_52 : decode b_Loans_note 52 = .ok (.aload_n 0, 1) := by decide +kernel
theorem d_Loans_note_53 : decode b_Loans_note 53 = .ok (.getfield 27, 3) := by decide +kernel
theorem d_Loans_note_56 : decode b_Loans_note 56 = .ok (.iconst 1, 1) := by decide +kernel
theorem d_Loans_note_57 : decode b_Loans_note 57 = .ok (.isub, 1) := by decide +kernel
theorem d_Loans_note_58 : decode b_Loans_note 58 = .ok (.ireturn, 1) := by decide +kernel
theorem d_Loans_placeOf_0 : decode b_Loans_placeOf 0 = .ok (.aload_n 0, 1) := by decide +kernel
theorem d_Loans_placeOf_1 : decode b_Loans_placeOf 1 = .ok (.iload_n 2, 1) := by decide +kernel
theorem d_Loans_placeOf_2 : decode b_Loans_placeOf 2 = .ok (.iload_n 3, 1) := by decide +kernel
theorem d_Loans_placeOf_3 : decode b_Loans_placeOf 3 = .ok (.invokevirtual 31, 3) := by decide +kernel
theorem d_Loans_placeOf_6 : decode b_Loans_placeOf 6 = .ok (.aload_n 0, 1) := by decide +kernel
theorem d_Loans_placeOf_7 : decode b_Loans_placeOf 7 = .ok (.getfield 24, 3) := by decide +kernel
theorem d_Loans_placeOf_10 : decode b_Loans_placeOf 10 = .ok (.iload_n 1, 1) := by decide +kernel
theorem d_Loans_placeOf_11 : decode b_Loans_placeOf 11 = .ok (.iaload, 1) := by decide +kernel
theorem d_Loans_placeOf_12 : decode b_Loans_placeOf 12 = .ok (.ireturn, 1) := by decide +kernel
theorem d_Loans_copiesAt_0 : decode b_Loans_copiesAt 0 = .ok (.aload_n 0, 1) := by decide +kernel
theorem d_Loans_copiesAt_1 : decode b_Loans_copiesAt 1 = .ok (.iload_n 2, 1) := by decide +kernel
theorem d_Loans_copiesAt_2 : decode b_Loans_copiesAt 2 = .ok (.iload_n 3, 1) := by decide +kernel
theorem d_Loans_copiesAt_3 : decode b_Loans_copiesAt 3 = .ok (.invokevirtual 31, 3) := by decide +kernel
theorem d_Loans_copiesAt_6 : decode b_Loans_copiesAt 6 = .ok (.iconst 0, 1) := by decide +kernel
theorem d_Loans_copiesAt_7 : decode b_Loans_copiesAt 7 = .ok (.istore 4, 2) := by decide +kernel
theorem d_Loans_copiesAt_9 : decode b_Loans_copiesAt 9 = .ok (.iconst 0, 1) := by decide +kernel
theorem d_Loans_copiesAt_10 : decode b_Loans_copiesAt 10 = .ok (.istore 5, 2) := by decide +kernel
theorem d_Loans_copiesAt_12 : decode b_Loans_copiesAt 12 = .ok (.iload 5, 2) := by decide +kernel
theorem d_Loans_copiesAt_14 : decode b_Loans_copiesAt 14 = .ok (.bipush 30, 2) := by decide +kernel
theorem d_Loans_copiesAt_16 : decode b_Loans_copiesAt 16 = .ok (.if_icmp .ge 23, 3) := by decide +kernel
theorem d_Loans_copiesAt_19 : decode b_Loans_copiesAt 19 = .ok (.aload_n 0, 1) := by decide +kernel
theorem d_Loans_copiesAt_20 : decode b_Loans_copiesAt 20 = .ok (.getfield 24, 3) := by decide +kernel
theorem d_Loans_copiesAt_23 : decode b_Loans_copiesAt 23 = .ok (.iload 5, 2) := by decide +kernel
theorem d_Loans_copiesAt_25 : decode b_Loans_copiesAt 25 = .ok (.iaload, 1) := by decide +kernel
theorem d_Loans_copiesAt_26 : decode b_Loans_copiesAt 26 = .ok (.iload_n 1, 1) := by decide +kernel
theorem d_Loans_copiesAt_27 : decode b_Loans_copiesAt 27 = .ok (.if_icmp .ne 6, 3) := by decide +kernel
theorem d_Loans_copiesAt_30 : decode b_Loans_copiesAt 30 = .ok (.iinc 4 1, 3) := by decide +kernel
theorem d_Loans_copiesAt_33 : decode b_Loans_copiesAt 33 = .ok (.iinc 5 1, 3) := by decide +kernel
theorem d_Loans_copiesAt_36 : decode b_Loans_copiesAt 36 = .ok (.goto (-24), 3) := by decide +kernel
theorem d_Loans_copiesAt_39 : decode b_Loans_copiesAt 39 = .ok (.iload 4, 2) := by decide +kernel
theorem d_Loans_copiesAt_41 : decode b_Loans_copiesAt 41 = .ok (.ireturn, 1) := by decide +kernel
theorem d_Loans_settle_0 : decode b_Loans_settle 0 = .ok (.aload_n 0, 1) := by decide +kernel
theorem d_Loans_settle_1 : decode b_Loans_settle 1 = .ok (.getfield 21, 3) := by decide +kernel
theorem d_Loans_settle_4 : decode b_Loans_settle 4 = .ok (.iconst (-1), 1) := by decide +kernel
theorem d_Loans_settle_5 : decode b_Loans_settle 5 = .ok (.invokestatic 35, 3) := by decide +kernel
theorem d_Loans_settle_8 : decode b_Loans_settle 8 = .ok (.aload_n 0, 1) := by decide +kernel
theorem d_Loans_settle_9 : decode b_Loans_settle 9 = .ok (.getfield 24, 3) := by decide +kernel
theorem d_Loans_settle_12 : decode b_Loans_settle 12 = .ok (.iconst (-1), 1) := by decide +kernel
theorem d_Loans_settle_13 : decode b_Loans_settle 13 = .ok (.invokestatic 35, 3) := by decide +kernel
theorem d_Loans_settle_16 : decode b_Loans_settle 16 = .ok (.iconst 0, 1) := by decide +kernel
theorem d_Loans_settle_17 : decode b_Loans_settle 17 = .ok (.istore_n 3, 1) := by decide +kernel
theorem d_Loans_settle_18 : decode b_Loans_settle 18 = .ok (.iload_n 3, 1) := by decide +kernel
theorem d_Loans_settle_19 : decode b_Loans_settle 19 = .ok (.iload_n 2, 1) := by decide +kernel
theorem d_Loans_settle_20 : decode b_Loans_settle 20 = .ok (.if_icmp .ge 77, 3) := by decide +kernel
theorem d_Loans_settle_23 : decode b_Loans_settle 23 = .ok (.iload_n 3, 1) := by decide +kernel
theorem d_Loans_settle_24 : decode b_Loans_settle 24 = .ok (.aload_n 0, 1) := by decide +kernel
theorem d_Loans_settle_25 : decode b_Loans_settle 25 = .ok (.getfield 27, 3) := by decide +kernel
theorem d_Loans_settle_28 : decode b_Loans_settle 28 = .ok (.if_icmp .ge 69, 3) := by decide +kernel
theorem d_Loans_settle_31 : decode b_Loans_settle 31 = .ok (.aload_n 0, 1) := by decide +kernel
theorem d_Loans_settle_32 : decode b_Loans_settle 32 = .ok (.getfield 9, 3) := by decide +kernel
theorem d_Loans_settle_35 : decode b_Loans_settle 35 = .ok (.iload_n 3, 1) := by decide +kernel
theorem d_Loans_settle_36 : decode b_Loans_settle 36 = .ok (.iaload, 1) := by decide +kernel
theorem d_Loans_settle_37 : decode b_Loans_settle 37 = .ok (.istore 4, 2) := by decide +kernel
theorem d_Loans_settle_39 : decode b_Loans_settle 39 = .ok (.aload_n 0, 1) := by decide +kernel
theorem d_Loans_settle_40 : decode b_Loans_settle 40 = .ok (.getfield 15, 3) := by decide +kernel
theorem d_Loans_settle_43 : decode b_Loans_settle 43 = .ok (.iload_n 3, 1) := by decide +kernel
theorem d_Loans_settle_44 : decode b_Loans_settle 44 = .ok (.iaload, 1) := by decide +kernel
theorem d_Loans_settle_45 : decode b_Loans_settle 45 = .ok (.iload_n 1, 1) := by decide +kernel
theorem d_Loans_settle_46 : decode b_Loans_settle 46 = .ok (.if_icmp .gt 45, 3) := by decide +kernel
theorem d_Loans_settle_49 : decode b_Loans_settle 49 = .ok (.aload_n 0, 1) := by decide +kernel
theorem d_Loans_settle_50 : decode b_Loans_settle 50 = .ok (.getfield 15, 3) := by decide +kernel
theorem d_Loans_settle_53 : decode b_Loans_settle 53 = .ok (.iload_n 3, 1) := by decide +kernel
theorem d_Loans_settle_54 : decode b_Loans_settle 54 = .ok (.iaload, 1) := by decide +kernel
theorem d_Loans_settle_55 : decode b_Loans_settle 55 = .ok (.aload_n 0, 1) := by decide +kernel
theorem d_Loans_settle_56 : decode b_Loans_settle 56 = .ok (.getfield 21, 3) := by decide +kernel
theorem d_Loans_settle_59 : decode b_Loans_settle 59 = .ok (.iload 4, 2) := by decide +kernel
theorem d_Loans_settle_61 : decode b_Loans_settle 61 = .ok (.iaload, 1) := by decide +kernel
theorem d_Loans_settle_62 : decode b_Loans_settle 62 = .ok (.if_icmp .lt 29, 3) := by decide +kernel
theorem d_Loans_settle_65 : decode b_Loans_settle 65 = .ok (.aload_n 0, 1) := by decide +kernel
theorem d_Loans_settle_66 : decode b_Loans_settle 66 = .ok (.getfield 21, 3) := by decide +kernel
theorem d_Loans_settle_69 : decode b_Loans_settle 69 = .ok (.iload 4, 2) := by decide +kernel
theorem d_Loans_settle_71 : decode b_Loans_settle 71 = .ok (.aload_n 0, 1) := by decide +kernel
theorem d_Loans_settle_72 : decode b_Loans_settle 72 = .ok (.getfield 15, 3) := by decide +kernel
theorem d_Loans_settle_75 : decode b_Loans_settle 75 = .ok (.iload_n 3, 1) := by decide +kernel
theorem d_Loans_settle_76 : decode b_Loans_settle 76 = .ok (.iaload, 1) := by decide +kernel
theorem d_Loans_settle_77 : decode b_Loans_settle 77 = .ok (.iastore, 1) := by decide +kernel
theorem d_Loans_settle_78 : decode b_Loans_settle 78 = .ok (.aload_n 0, 1) := by decide +kernel
theorem d_Loans_settle_79 : decode b_Loans_settle 79 = .ok (.getfield 24, 3) := by decide +kernel
theorem d_Loans_settle_82 : decode b_Loans_settle 82 = .ok (.iload 4, 2) := by decide +kernel
theorem d_Loans_settle_84 : decode b_Loans_settle 84 = .ok (.aload_n 0, 1) := by decide +kernel
theorem d_Loans_settle_85 : decode b_Loans_settle 85 = .ok (.getfield 18, 3) := by decide +kernel
theorem d_Loans_settle_88 : decode b_Loans_settle 88 = .ok (.iload_n 3, 1) := by decide +kernel
theorem d_Loans_settle_89 : decode b_Loans_settle 89 = .ok (.iaload, 1) := by decide +kernel
theorem d_Loans_settle_90 : decode b_Loans_settle 90 = .ok (.iastore, 1) := by decide +kernel
theorem d_Loans_settle_91 : decode b_Loans_settle 91 = .ok (.iinc 3 1, 3) := by decide +kernel
theorem d_Loans_settle_94 : decode b_Loans_settle 94 = .ok (.goto (-76), 3) := by decide +kernel
theorem d_Loans_settle_97 : decode b_Loans_settle 97 = .ok (.return_, 1) := by decide +kernel
theorem d_Piece_init_0 : decode b_Piece_init 0 = .ok (.aload_n 0, 1) := by decide +kernel
theorem d_Piece_init_1 : decode b_Piece_init 1 = .ok (.invokespecial 3, 3) := by decide +kernel
theorem d_Piece_init_4 : decode b_Piece_init 4 = .ok (.aload_n 0, 1) := by decide +kernel
theorem d_Piece_init_5 : decode b_Piece_init 5 = .ok (.bipush 10, 2) := by decide +kernel
theorem d_Piece_init_7 : decode b_Piece_init 7 = .ok (.newarray .int, 2) := by decide +kernel
theorem d_Piece_init_9 : decode b_Piece_init 9 = .ok (.putfield 9, 3) := by decide +kernel
theorem d_Piece_init_12 : decode b_Piece_init 12 = .ok (.aload_n 0, 1) := by decide +kernel
theorem d_Piece_init_13 : decode b_Piece_init 13 = .ok (.bipush 40, 2) := by decide +kernel
theorem d_Piece_init_15 : decode b_Piece_init 15 = .ok (.newarray .int, 2) := by decide +kernel
theorem d_Piece_init_17 : decode b_Piece_init 17 = .ok (.putfield 15, 3) := by decide +kernel
theorem d_Piece_init_20 : decode b_Piece_init 20 = .ok (.aload_n 0, 1) := by decide +kernel
theorem d_Piece_init_21 : decode b_Piece_init 21 = .ok (.bipush 10, 2) := by decide +kernel
theorem d_Piece_init_23 : decode b_Piece_init 23 = .ok (.newarray .int, 2) := by decide +kernel
theorem d_Piece_init_25 : decode b_Piece_init 25 = .ok (.putfield 18, 3) := by decide +kernel
theorem d_Piece_init_28 : decode b_Piece_init 28 = .ok (.return_, 1) := by decide +kernel
theorem d_Piece_clear_0 : decode b_Piece_clear 0 = .ok (.aload_n 0, 1) := by decide +kernel
theorem d_Piece_clear_1 : decode b_Piece_clear 1 = .ok (.iconst 0, 1) := by decide +kernel
theorem d_Piece_clear_2 : decode b_Piece_clear 2 = .ok (.putfield 21, 3) := by decide +kernel
theorem d_Piece_clear_5 : decode b_Piece_clear 5 = .ok (.aload_n 0, 1) := by decide +kernel
theorem d_Piece_clear_6 : decode b_Piece_clear 6 = .ok (.iconst 0, 1) := by decide +kernel
theorem d_Piece_clear_7 : decode b_Piece_clear 7 = .ok (.putfield 25, 3) := by decide +kernel
theorem d_Piece_clear_10 : decode b_Piece_clear 10 = .ok (.aload_n 0, 1) := by decide +kernel
theorem d_Piece_clear_11 : decode b_Piece_clear 11 = .ok (.getfield 9, 3) := by decide +kernel
theorem d_Piece_clear_14 : decode b_Piece_clear 14 = .ok (.iconst 0, 1) := by decide +kernel
theorem d_Piece_clear_15 : decode b_Piece_clear 15 = .ok (.invokestatic 28, 3) := by decide +kernel
theorem d_Piece_clear_18 : decode b_Piece_clear 18 = .ok (.aload_n 0, 1) := by decide +kernel
theorem d_Piece_clear_19 : decode b_Piece_clear 19 = .ok (.getfield 18, 3) := by decide +kernel
theorem d_Piece_clear_22 : decode b_Piece_clear 22 = .ok (.iconst (-1), 1) := by decide +kernel
theorem d_Piece_clear_23 : decode b_Piece_clear 23 = .ok (.invokestatic 28, 3) := by decide +kernel
theorem d_Piece_clear_26 : decode b_Piece_clear 26 = .ok (.return_, 1) := by decide +kernel
theorem d_Piece_hasPart_0 : decode b_Piece_hasPart 0 = .ok (.iload_n 1, 1) := by decide +kernel
theorem d_Piece_hasPart_1 : decode b_Piece_hasPart 1 = .ok (.ifCond .lt 15, 3) := by decide +kernel
theorem d_Piece_hasPart_4 : decode b_Piece_hasPart 4 = .ok (.iload_n 1, 1) := by decide +kernel
theorem d_Piece_hasPart_5 : decode b_Piece_hasPart 5 = .ok (.aload_n 0, 1) := by decide +kernel
theorem d_Piece_hasPart_6 : decode b_Piece_hasPart 6 = .ok (.getfield 21, 3) := by decide +kernel
theorem d_Piece_hasPart_9 : decode b_Piece_hasPart 9 = .ok (.if_icmp .ge 7, 3) := by decide +kernel
theorem d_Piece_hasPart_12 : decode b_Piece_hasPart 12 = .ok (.iconst 1, 1) := by decide +kernel
