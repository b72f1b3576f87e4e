theorem d_Players_partCost_17 : decode b_Players_partCost 17 = .ok (.aload_n 0, 1) := by decide +kernel
theorem d_Players_partCost_18 : decode b_Players_partCost 18 = .ok (.iload_n 1, 1) := by decide +kernel
theorem d_Players_partCost_19 : decode b_Players_partCost 19 = .ok (.aload_n 2, 1) := by decide +kernel
theorem d_Players_partCost_20 : decode b_Players_partCost 20 = .ok (.iload_n 3, 1) := by decide +kernel
theorem d_Players_partCost_21 : decode b_Players_partCost 21 = .ok (.iload 5, 2) := by decide +kernel
theorem d_Players_partCost_23 : decode b_Players_partCost 23 = .ok (.invokevirtual 42, 3) := by decide +kernel
theorem d_Players_partCost_26 : decode b_Players_partCost 26 = .ok (.invokevirtual 46, 3) := by decide +kernel
theorem d_Players_partCost_29 : decode b_Players_partCost 29 = .ok (.istore 6, 2) := by decide +kernel
theorem d_Players_partCost_31 : decode b_Players_partCost 31 = .ok (.iload 6, 2) := by decide +kernel
theorem d_Players_partCost_33 : decode b_Players_partCost 33 = .ok (.iconst (-1), 1) := by decide +kernel
theorem d_Players_partCost_34 : decode b_Players_partCost 34 = .ok (.if_icmp .eq 20, 3) := by decide +kernel
theorem d_Players_partCost_37 : decode b_Players_partCost 37 = .ok (.iload 4, 2) := by decide +kernel
theorem d_Players_partCost_39 : decode b_Players_partCost 39 = .ok (.iconst (-1), 1) := by decide +kernel
theorem d_Players_partCost_40 : decode b_Players_partCost 40 = .ok (.if_icmp .eq 10, 3) := by decide +kernel
theorem d_Players_partCost_43 : decode b_Players_partCost 43 = .ok (.iload 6, 2) := by decide +kernel
theorem d_Players_partCost_45 : decode b_Players_partCost 45 = .ok (.iload 4, 2) := by decide +kernel
theorem d_Players_partCost_47 : decode b_Players_partCost 47 = .ok (.if_icmp .ge 7, 3) := by decide +kernel
theorem d_Players_partCost_50 : decode b_Players_partCost 50 = .ok (.iload 6, 2) := by decide +kernel
theorem d_Players_partCost_52 : decode b_Players_partCost 52 = .ok (.istore 4, 2) := by decide +kernel
theorem d_Players_partCost_54 : decode b_Players_partCost 54 = .ok (.iinc 5 1, 3) := by decide +kernel
theorem d_Players_partCost_57 : decode b_Players_partCost 57 = .ok (.goto (-51), 3) := by decide +kernel
theorem d_Players_partCost_60 : decode b_Players_partCost 60 = .ok (.iload 4, 2) := by decide +kernel
theorem d_Players_partCost_62 : decode b_Players_partCost 62 = .ok (.ireturn, 1) := by decide +kernel
theorem d_Players_presentFor_0 : decode b_Players_presentFor 0 = .ok (.iconst 0, 1) := by decide +kernel
theorem d_Players_presentFor_1 : decode b_Players_presentFor 1 = .ok (.istore_n 3, 1) := by decide +kernel
theorem d_Players_presentFor_2 : decode b_Players_presentFor 2 = .ok (.iconst 0, 1) := by decide +kernel
theorem d_Players_presentFor_3 : decode b_Players_presentFor 3 = .ok (.istore 4, 2) := by decide +kernel
theorem d_Players_presentFor_5 : decode b_Players_presentFor 5 = .ok (.iload 4, 2) := by decide +kernel
theorem d_Players_presentFor_7 : decode b_Players_presentFor 7 = .ok (.aload_n 0, 1) := by decide +kernel
theorem d_Players_presentFor_8 : decode b_Players_presentFor 8 = .ok (.getfield 30, 3) := by decide +kernel
theorem d_Players_presentFor_11 : decode b_Players_presentFor 11 = .ok (.if_icmp .ge 37, 3) := by decide +kernel
theorem d_Players_presentFor_14 : decode b_Players_presentFor 14 = .ok (.aload_n 0, 1) := by decide +kernel
theorem d_Players_presentFor_15 : decode b_Players_presentFor 15 = .ok (.iload 4, 2) := by decide +kernel
theorem d_Players_presentFor_17 : decode b_Players_presentFor 17 = .ok (.invokevirtual 49, 3) := by decide +kernel
theorem d_Players_presentFor_20 : decode b_Players_presentFor 20 = .ok (.ifCond .eq 22, 3) := by decide +kernel
theorem d_Players_presentFor_23 : decode b_Players_presentFor 23 = .ok (.aload_n 0, 1) := by decide +kernel
theorem d_Players_presentFor_24 : decode b_Players_presentFor 24 = .ok (.iload 4, 2) := by decide +kernel
theorem d_Players_presentFor_26 : decode b_Players_presentFor 26 = .ok (.aload_n 1, 1) := by decide +kernel
theorem d_Players_presentFor_27 : decode b_Players_presentFor 27 = .ok (.iload_n 2, 1) := by decide +kernel
theorem d_Players_presentFor_28 : decode b_Players_presentFor 28 = .ok (.invokevirtual 53, 3) := by decide +kernel
theorem d_Players_presentFor_31 : decode b_Players_presentFor 31 = .ok (.iconst (-1), 1) := by decide +kernel
theorem d_Players_presentFor_32 : decode b_Players_presentFor 32 = .ok (.if_icmp .eq 10, 3) := by decide +kernel
theorem d_Players_presentFor_35 : decode b_Players_presentFor 35 = .ok (.iload_n 3, 1) := by decide +kernel
theorem d_Players_presentFor_36 : decode b_Players_presentFor 36 = .ok (.iconst 1, 1) := by decide +kernel
theorem d_Players_presentFor_37 : decode b_Players_presentFor 37 = .ok (.iload 4, 2) := by decide +kernel
theorem d_Players_presentFor_39 : decode b_Players_presentFor 39 = .ok (.ishl, 1) := by decide +kernel
theorem d_Players_presentFor_40 : decode b_Players_presentFor 40 = .ok (.ior, 1) := by decide +kernel
theorem d_Players_presentFor_41 : decode b_Players_presentFor 41 = .ok (.istore_n 3, 1) := by decide +kernel
theorem d_Players_presentFor_42 : decode b_Players_presentFor 42 = .ok (.iinc 4 1, 3) := by decide +kernel
theorem d_Players_presentFor_45 : decode b_Players_presentFor 45 = .ok (.goto (-40), 3) := by decide +kernel
theorem d_Players_presentFor_48 : decode b_Players_presentFor 48 = .ok (.iload_n 3, 1) := by decide +kernel
theorem d_Players_presentFor_49 : decode b_Players_presentFor 49 = .ok (.ireturn, 1) := by decide +kernel
theorem d_Players_seatingCost_0 : decode b_Players_seatingCost 0 = .ok (.iconst 0, 1) := by decide +kernel
theorem d_Players_seatingCost_1 : decode b_Players_seatingCost 1 = .ok (.istore_n 2, 1) := by decide +kernel
theorem d_Players_seatingCost_2 : decode b_Players_seatingCost 2 = .ok (.iconst 0, 1) := by decide +kernel
theorem d_Players_seatingCost_3 : decode b_Players_seatingCost 3 = .ok (.istore_n 3, 1) := by decide +kernel
theorem d_Players_seatingCost_4 : decode b_Players_seatingCost 4 = .ok (.iload_n 3, 1) := by decide +kernel
theorem d_Players_seatingCost_5 : decode b_Players_seatingCost 5 = .ok (.aload_n 1, 1) := by decide +kernel
theorem d_Players_seatingCost_6 : decode b_Players_seatingCost 6 = .ok (.getfield 57, 3) := by decide +kernel
theorem d_Players_seatingCost_9 : decode b_Players_seatingCost 9 = .ok (.if_icmp .ge 41, 3) := by decide +kernel
theorem d_Players_seatingCost_12 : decode b_Players_seatingCost 12 = .ok (.aload_n 1, 1) := by decide +kernel
theorem d_Players_seatingCost_13 : decode b_Players_seatingCost 13 = .ok (.getfield 60, 3) := by decide +kernel
theorem d_Players_seatingCost_16 : decode b_Players_seatingCost 16 = .ok (.iload_n 3, 1) := by decide +kernel
theorem d_Players_seatingCost_17 : decode b_Players_seatingCost 17 = .ok (.iaload, 1) := by decide +kernel
theorem d_Players_seatingCost_18 : decode b_Players_seatingCost 18 = .ok (.istore 4, 2) := by decide +kernel
theorem d_Players_seatingCost_20 : decode b_Players_seatingCost 20 = .ok (.aload_n 0, 1) := by decide +kernel
theorem d_Players_seatingCost_21 : decode b_Players_seatingCost 21 = .ok (.iload 4, 2) := by decide +kernel
theorem d_Players_seatingCost_23 : decode b_Players_seatingCost 23 = .ok (.invokevirtual 63, 3) := by decide +kernel
theorem d_Players_seatingCost_26 : decode b_Players_seatingCost 26 = .ok (.ifCond .eq 18, 3) := by decide +kernel
theorem d_Players_seatingCost_29 : decode b_Players_seatingCost 29 = .ok (.iload_n 2, 1) := by decide +kernel
theorem d_Players_seatingCost_30 : decode b_Players_seatingCost 30 = .ok (.iconst 0, 1) := by decide +kernel
theorem d_Players_seatingCost_31 : decode b_Players_seatingCost 31 = .ok (.aload_n 0, 1) := by decide +kernel
theorem d_Players_seatingCost_32 : decode b_Players_seatingCost 32 = .ok (.iload 4, 2) := by decide +kernel
theorem d_Players_seatingCost_34 : decode b_Players_seatingCost 34 = .ok (.aload_n 1, 1) := by decide +kernel
theorem d_Players_seatingCost_35 : decode b_Players_seatingCost 35 = .ok (.iload_n 3, 1) := by decide +kernel
theorem d_Players_seatingCost_36 : decode b_Players_seatingCost 36 = .ok (.invokevirtual 53, 3) := by decide +kernel
theorem d_Players_seatingCost_39 : decode b_Players_seatingCost 39 = .ok (.invokestatic 66, 3) := by decide +kernel
theorem d_Players_seatingCost_42 : decode b_Players_seatingCost 42 = .ok (.iadd, 1) := by decide +kernel
theorem d_Players_seatingCost_43 : decode b_Players_seatingCost 43 = .ok (.istore_n 2, 1) := by decide +kernel
theorem d_Players_seatingCost_44 : decode b_Players_seatingCost 44 = .ok (.iinc 3 1, 3) := by decide +kernel
theorem d_Players_seatingCost_47 : decode b_Players_seatingCost 47 = .ok (.goto (-43), 3) := by decide +kernel
theorem d_Players_seatingCost_50 : decode b_Players_seatingCost 50 = .ok (.iload_n 2, 1) := by decide +kernel
theorem d_Players_seatingCost_51 : decode b_Players_seatingCost 51 = .ok (.ireturn, 1) := by decide +kernel
theorem d_Players_seatedButAway_0 : decode b_Players_seatedButAway 0 = .ok (.iconst 0, 1) := by decide +kernel
theorem d_Players_seatedButAway_1 : decode b_Players_seatedButAway 1 = .ok (.istore_n 2, 1) := by decide +kernel
theorem d_Players_seatedButAway_2 : decode b_Players_seatedButAway 2 = .ok (.iconst 0, 1) := by decide +kernel
theorem d_Players_seatedButAway_3 : decode b_Players_seatedButAway 3 = .ok (.istore_n 3, 1) := by decide +kernel
theorem d_Players_seatedButAway_4 : decode b_Players_seatedButAway 4 = .ok (.iload_n 3, 1) := by decide +kernel
theorem d_Players_seatedButAway_5 : decode b_Players_seatedButAway 5 = .ok (.aload_n 1, 1) := by decide +kernel
theorem d_Players_seatedButAway_6 : decode b_Players_seatedButAway 6 = .ok (.getfield 57, 3) := by decide +kernel
theorem d_Players_seatedButAway_9 : decode b_Players_seatedButAway 9 = .ok (.if_icmp .ge 38, 3) := by decide +kernel
theorem d_Players_seatedButAway_12 : decode b_Players_seatedButAway 12 = .ok (.aload_n 1, 1) := by decide +kernel
theorem d_Players_seatedButAway_13 : decode b_Players_seatedButAway 13 = .ok (.getfield 60, 3) := by decide +kernel
theorem d_Players_seatedButAway_16 : decode b_Players_seatedButAway 16 = .ok (.iload_n 3, 1) := by decide +kernel
theorem d_Players_seatedButAway_17 : decode b_Players_seatedButAway 17 = .ok (.iaload, 1) := by decide +kernel
theorem d_Players_seatedButAway_18 : decode b_Players_seatedButAway 18 = .ok (.istore 4, 2) := by decide +kernel
theorem d_Players_seatedButAway_20 : decode b_Players_seatedButAway 20 = .ok (.aload_n 0, 1) := by decide +kernel
theorem d_Players_seatedButAway_21 : decode b_Players_seatedButAway 21 = .ok (.iload 4, 2) := by decide +kernel
theorem d_Players_seatedButAway_23 : decode b_Players_seatedButAway 23 = .ok (.invokevirtual 63, 3) := by decide +kernel
theorem d_Players_seatedButAway_26 : decode b_Players_seatedButAway 26 = .ok (.ifCond .eq 15, 3) := by decide +kernel
theorem d_Players_seatedButAway_29 : decode b_Players_seatedButAway 29 = .ok (.aload_n 0, 1) := by decide +kernel
theorem d_Players_seatedButAway_30 : decode b_Players_seatedButAway 30 = .ok (.iload 4, 2) := by decide +kernel
theorem d_Players_seatedButAway_32 : decode b_Players_seatedButAway 32 = .ok (.invokevirtual 49, 3) := by decide +kernel
theorem d_Players_seatedButAway_35 : decode b_Players_seatedButAway 35 = .ok (.ifCond .ne 6, 3) := by decide +kernel
theorem d_Players_seatedButAway_38 : decode b_Players_seatedButAway 38 = .ok (.iinc 2 1, 3) := by decide +kernel
theorem d_Players_seatedButAway_41 : decode b_Players_seatedButAway 41 = .ok (.iinc 3 1, 3) := by decide +kernel
theorem d_Players_seatedButAway_44 : decode b_Players_seatedButAway 44 = .ok (.goto (-40), 3) := by decide +kernel
theorem d_Players_seatedButAway_47 : decode b_Players_seatedButAway 47 = .ok (.iload_n 2, 1) := by decide +kernel
theorem d_Players_seatedButAway_48 : decode b_Players_seatedButAway 48 = .ok (.ireturn, 1) := by decide +kernel
theorem d_Rule_init_0 : decode b_Rule_init 0 = .ok (.aload_n 0, 1) := by decide +kernel
theorem d_Rule_init_1 : decode b_Rule_init 1 = .ok (.invokespecial 3, 3) := by decide +kernel
theorem d_Rule_init_4 : decode b_Rule_init 4 = .ok (.aload_n 0, 1) := by decide +kernel
theorem d_Rule_init_5 : decode b_Rule_init 5 = .ok (.iconst 5, 1) := by decide +kernel
theorem d_Rule_init_6 : decode b_Rule_init 6 = .ok (.newarray .int, 2) := by decide +kernel
theorem d_Rule_init_8 : decode b_Rule_init 8 = .ok (.putfield 11, 3) := by decide +kernel
theorem d_Rule_init_11 : decode b_Rule_init 11 = .ok (.aload_n 0, 1) := by decide +kernel
theorem d_Rule_init_12 : decode b_Rule_init 12 = .ok (.bipush 32, 2) := by decide +kernel
theorem d_Rule_init_14 : decode b_Rule_init 14 = .ok (.newarray .int, 2) := by decide +kernel
theorem d_Rule_init_16 : decode b_Rule_init 16 = .ok (.putfield 15, 3) := by decide +kernel
theorem d_Rule_init_19 : decode b_Rule_init 19 = .ok (.aload_n 0, 1) := by decide +kernel
theorem d_Rule_init_20 : decode b_Rule_init 20 = .ok (.sipush 800, 3) := by decide +kernel
theorem d_Rule_init_23 : decode b_Rule_init 23 = .ok (.newarray .int, 2) := by decide +kernel
theorem d_Rule_init_25 : decode b_Rule_init 25 = .ok (.putfield 18, 3) := by decide +kernel
theorem d_Rule_init_28 : decode b_Rule_init 28 = .ok (.aload_n 0, 1) := by decide +kernel
theorem d_Rule_init_29 : decode b_Rule_init 29 = .ok (.sipush 800, 3) := by decide +kernel
theorem d_Rule_init_32 : decode b_Rule_init 32 = .ok (.newarray .int, 2) := by decide +kernel
theorem d_Rule_init_34 : decode b_Rule_init 34 = .ok (.putfield 21, 3) := by decide +kernel
theorem d_Rule_init_37 : decode b_Rule_init 37 = .ok (.return_, 1) := by decide +kernel
theorem d_Rule_beginDraft_0 : decode b_Rule_beginDraft 0 = .ok (.aload_n 0, 1) := by decide +kernel
theorem d_Rule_beginDraft_1 : decode b_Rule_beginDraft 1 = .ok (.iconst 0, 1) := by decide +kernel
theorem d_Rule_beginDraft_2 : decode b_Rule_beginDraft 2 = .ok (.putfield 24, 3) := by decide +kernel
theorem d_Rule_beginDraft_5 : decode b_Rule_beginDraft 5 = .ok (.return_, 1) := by decide +kernel
theorem d_Rule_adoptDraft_0 : decode b_Rule_adoptDraft 0 = .ok (.aload_n 0, 1) := by decide +kernel
theorem d_Rule_adoptDraft_1 : decode b_Rule_adoptDraft 1 = .ok (.getfield 18, 3) := by decide +kernel
theorem d_Rule_adoptDraft_4 : decode b_Rule_adoptDraft 4 = .ok (.astore_n 1, 1) := by decide +kernel
theorem d_Rule_adoptDraft_5 : decode b_Rule_adoptDraft 5 = .ok (.aload_n 0, 1) := by decide +kernel
theorem d_Rule_adoptDraft_6 : decode b_Rule_adoptDraft 6 = .ok (.aload_n 0, 1) := by decide +kernel
theorem d_Rule_adoptDraft_7 : decode b_Rule_adoptDraft 7 = .ok (.getfield 21, 3) := by decide +kernel
theorem d_Rule_adoptDraft_10 : decode b_Rule_adoptDraft 10 = .ok (.putfield 18, 3) := by decide +kernel
theorem d_Rule_adoptDraft_13 : decode b_Rule_adoptDraft 13 = .ok (.aload_n 0, 1) := by decide +kernel
theorem d_Rule_adoptDraft_14 : decode b_Rule_adoptDraft 14 = .ok (.aload_n 1, 1) := by decide +kernel
theorem d_Rule_adoptDraft_15 : decode b_Rule_adoptDraft 15 = .ok (.putfield 21, 3) := by decide +kernel
theorem d_Rule_adoptDraft_18 : decode b_Rule_adoptDraft 18 = .ok (.aload_n 0, 1) := by decide +kernel
theorem d_Rule_adoptDraft_19 : decode b_Rule_adoptDraft 19 = .ok (.aload_n 0, 1) := by decide +kernel
theorem d_Rule_adoptDraft_20 : decode b_Rule_adoptDraft 20 = .ok (.getfield 24, 3) := by decide +kernel
theorem d_Rule_adoptDraft_23 : decode b_Rule_adoptDraft 23 = .ok (.putfield 28, 3) := by decide +kernel
theorem d_Rule_adoptDraft_26 : decode b_Rule_adoptDraft 26 = .ok (.return_, 1) := by decide +kernel
theorem d_Rule_readEither_0 : decode b_Rule_readEither 0 = .ok (.aload_n 0, 1) := by decide +kernel
theorem d_Rule_readEither_1 : decode b_Rule_readEither 1 = .ok (.aload_n 1, 1) := by decide +kernel
theorem d_Rule_readEither_2 : decode b_Rule_readEither 2 = .ok (.iload_n 2, 1) := by decide +kernel
theorem d_Rule_readEither_3 : decode b_Rule_readEither 3 = .ok (.invokevirtual 31, 3) := by decide +kernel
theorem d_Rule_readEither_6 : decode b_Rule_readEither 6 = .ok (.iconst 0, 1) := by decide +kernel
theorem d_Rule_readEither_7 : decode b_Rule_readEither 7 = .ok (.istore_n 3, 1) := by decide +kernel
theorem d_Rule_readEither_8 : decode b_Rule_readEither 8 = .ok (.iload_n 3, 1) := by decide +kernel
theorem d_Rule_readEither_9 : decode b_Rule_readEither 9 = .ok (.sipush 800, 3) := by decide +kernel
theorem d_Rule_readEither_12 : decode b_Rule_readEither 12 = .ok (.if_icmp .ge 34, 3) := by decide +kernel
theorem d_Rule_readEither_15 : decode b_Rule_readEither 15 = .ok (.aload_n 1, 1) := by decide +kernel
theorem d_Rule_readEither_16 : decode b_Rule_readEither 16 = .ok (.getfield 35, 3) := by decide +kernel
theorem d_Rule_readEither_19 : decode b_Rule_readEither 19 = .ok (.bipush 124, 2) := by decide +kernel
theorem d_Rule_readEither_21 : decode b_Rule_readEither 21 = .ok (.if_icmp .ne 25, 3) := by decide +kernel
theorem d_Rule_readEither_24 : decode b_Rule_readEither 24 = .ok (.aload_n 1, 1) := by decide +kernel
theorem d_Rule_readEither_25 : decode b_Rule_readEither 25 = .ok (.invokevirtual 40, 3) := by decide +kernel
theorem d_Rule_readEither_28 : decode b_Rule_readEither 28 = .ok (.aload_n 0, 1) := by decide +kernel
theorem d_Rule_readEither_29 : decode b_Rule_readEither 29 = .ok (.aload_n 1, 1) := by decide +kernel
theorem d_Rule_readEither_30 : decode b_Rule_readEither 30 = .ok (.iload_n 2, 1) := by decide +kernel
theorem d_Rule_readEither_31 : decode b_Rule_readEither 31 = .ok (.invokevirtual 31, 3) := by decide +kernel
theorem d_Rule_readEither_34 : decode b_Rule_readEither 34 = .ok (.aload_n 0, 1) := by decide +kernel
theorem d_Rule_readEither_35 : decode b_Rule_readEither 35 = .ok (.bipush (-124), 2) := by decide +kernel
theorem d_Rule_readEither_37 : decode b_Rule_readEither 37 = .ok (.invokevirtual 43, 3) := by decide +kernel
theorem d_Rule_readEither_40 : decode b_Rule_readEither 40 = .ok (.iinc 3 1, 3) := by decide +kernel
theorem d_Rule_readEither_43 : decode b_Rule_readEither 43 = .ok (.goto (-35), 3) := by decide +kernel
theorem d_Rule_readEither_46 : decode b_Rule_readEither 46 = .ok (.return_, 1) := by decide +kernel
theorem d_Rule_readBoth_0 : decode b_Rule_readBoth 0 = .ok (.aload_n 0, 1) := by decide +kernel
theorem d_Rule_readBoth_1 : decode b_Rule_readBoth 1 = .ok (.aload_n 1, 1) := by decide +kernel
theorem d_Rule_readBoth_2 : decode b_Rule_readBoth 2 = .ok (.iload_n 2, 1) := by decide +kernel
theorem d_Rule_readBoth_3 : decode b_Rule_readBoth 3 = .ok (.invokevirtual 47, 3) := by decide +kernel
theorem d_Rule_readBoth_6 : decode b_Rule_readBoth 6 = .ok (.iconst 0, 1) := by decide +kernel
theorem d_Rule_readBoth_7 : decode b_Rule_readBoth 7 = .ok (.istore_n 3, 1) := by decide +kernel
theorem d_Rule_readBoth_8 : decode b_Rule_readBoth 8 = .ok (.iload_n 3, 1) := by decide +kernel
theorem d_Rule_readBoth_9 : decode b_Rule_readBoth 9 = .ok (.sipush 800, 3) := by decide +kernel
theorem d_Rule_readBoth_12 : decode b_Rule_readBoth 12 = .ok (.if_icmp .ge 34, 3) := by decide +kernel
theorem d_Rule_readBoth_15 : decode b_Rule_readBoth 15 = .ok (.aload_n 1, 1) := by decide +kernel
theorem d_Rule_readBoth_16 : decode b_Rule_readBoth 16 = .ok (.getfield 35, 3) := by decide +kernel
theorem d_Rule_readBoth_19 : decode b_Rule_readBoth 19 = .ok (.bipush 38, 2) := by decide +kernel
theorem d_Rule_readBoth_21 : decode b_Rule_readBoth 21 = .ok (.if_icmp .ne 25, 3) := by decide +kernel
theorem d_Rule_readBoth_24 : decode b_Rule_readBoth 24 = .ok (.aload_n 1, 1) := by decide +kernel
theorem d_Rule_readBoth_25 : decode b_Rule_readBoth 25 = .ok (.invokevirtual 40, 3) := by decide +kernel
theorem d_Rule_readBoth_28 : decode b_Rule_readBoth 28 = .ok (.aload_n 0, 1) := by decide +kernel
theorem d_Rule_readBoth_29 : decode b_Rule_readBoth 29 = .ok (.aload_n 1, 1) := by decide +kernel
theorem d_Rule_readBoth_30 : decode b_Rule_readBoth 30 = .ok (.iload_n 2, 1) := by decide +kernel
theorem d_Rule_readBoth_31 : decode b_Rule_readBoth 31 = .ok (.invokevirtual 47, 3) := by decide +kernel
theorem d_Rule_readBoth_34 : decode b_Rule_readBoth 34 = .ok (.aload_n 0, 1) := by decide +kernel
theorem d_Rule_readBoth_35 : decode b_Rule_readBoth 35 = .ok (.bipush (-38), 2) := by decide +kernel
theorem d_Rule_readBoth_37 : decode b_Rule_readBoth 37 = .ok (.invokevirtual 43, 3) := by decide +kernel
theorem d_Rule_readBoth_40 : decode b_Rule_readBoth 40 = .ok (.iinc 3 1, 3) := by decide +kernel
theorem d_Rule_readBoth_43 : decode b_Rule_readBoth 43 = .ok (.goto (-35), 3) := by decide +kernel
theorem d_Rule_readBoth_46 : decode b_Rule_readBoth 46 = .ok (.return_, 1) := by decide +kernel
theorem d_Rule_readOne_0 : decode b_Rule_readOne 0 = .ok (.aload_n 1, 1) := by decide +kernel
theorem d_Rule_readOne_1 : decode b_Rule_readOne 1 = .ok (.getfield 35, 3) := by decide +kernel
theorem d_Rule_readOne_4 : decode b_Rule_readOne 4 = .ok (.istore_n 3, 1) := by decide +kernel
theorem d_Rule_readOne_5 : decode b_Rule_readOne 5 = .ok (.iload_n 3, 1) := by decide +kernel
theorem d_Rule_readOne_6 : decode b_Rule_readOne 6 = .ok (.bipush 33, 2) := by decide +kernel
theorem d_Rule_readOne_8 : decode b_Rule_readOne 8 = .ok (.if_icmp .eq 15, 3) := by decide +kernel
theorem d_Rule_readOne_11 : decode b_Rule_readOne 11 = .ok (.iload_n 3, 1) := by decide +kernel
theorem d_Rule_readOne_12 : decode b_Rule_readOne 12 = .ok (.bipush 40, 2) := by decide +kernel
theorem d_Rule_readOne_14 : decode b_Rule_readOne 14 = .ok (.if_icmp .eq 9, 3) := by decide +kernel
theorem d_Rule_readOne_17 : decode b_Rule_readOne 17 = .ok (.aload_n 0, 1) := by decide +kernel
theorem d_Rule_readOne_18 : decode b_Rule_readOne 18 = .ok (.aload_n 1, 1) := by decide +kernel
theorem d_Rule_readOne_19 : decode b_Rule_readOne 19 = .ok (.invokevirtual 50, 3) := by decide +kernel
theorem d_Rule_readOne_22 : decode b_Rule_readOne 22 = .ok (.return_, 1) := by decide +kernel
theorem d_Rule_readOne_23 : decode b_Rule_readOne 23 = .ok (.iload_n 2, 1) := by decide +kernel
theorem d_Rule_readOne_24 : decode b_Rule_readOne 24 = .ok (.bipush 8, 2) := by decide +kernel
theorem d_Rule_readOne_26 : decode b_Rule_readOne 26 = .ok (.if_icmp .lt 9, 3) := by decide +kernel
theorem d_Rule_readOne_29 : decode b_Rule_readOne 29 = .ok (.aload_n 1, 1) := by decide +kernel
theorem d_Rule_readOne_30 : decode b_Rule_readOne 30 = .ok (.iconst 4, 1) := by decide +kernel
theorem d_Rule_readOne_31 : decode b_Rule_readOne 31 = .ok (.invokevirtual 54, 3) := by decide +kernel
theorem d_Rule_readOne_34 : decode b_Rule_readOne 34 = .ok (.return_, 1) := by decide +kernel
theorem d_Rule_readOne_35 : decode b_Rule_readOne 35 = .ok (.aload_n 1, 1) := by decide +kernel
theorem d_Rule_readOne_36 : decode b_Rule_readOne 36 = .ok (.invokevirtual 40, 3) := by decide +kernel
theorem d_Rule_readOne_39 : decode b_Rule_readOne 39 = .ok (.iload_n 3, 1) := by decide +kernel
theorem d_Rule_readOne_40 : decode b_Rule_readOne 40 = .ok (.bipush 33, 2) := by decide +kernel
theorem d_Rule_readOne_42 : decode b_Rule_readOne 42 = .ok (.if_icmp .ne 20, 3) := by decide +kernel
theorem d_Rule_readOne_45 : decode b_Rule_readOne 45 = .ok (.aload_n 0, 1) := by decide +kernel
theorem d_Rule_readOne_46 : decode b_Rule_readOne 46 = .ok (.aload_n 1, 1) := by decide +kernel
theorem d_Rule_readOne_47 : decode b_Rule_readOne 47 = .ok (.iload_n 2, 1) := by decide +kernel
theorem d_Rule_readOne_48 : decode b_Rule_readOne 48 = .ok (.iconst 1, 1) := by decide +kernel
theorem d_Rule_readOne_49 : decode b_Rule_readOne 49 = .ok (.iadd, 1) := by decide +kernel
theorem d_Rule_readOne_50 : decode b_Rule_readOne 50 = .ok (.invokevirtual 47, 3) := by decide +kernel
theorem d_Rule_readOne_53 : decode b_Rule_readOne 53 = .ok (.aload_n 0, 1) := by decide +kernel
theorem d_Rule_readOne_54 : decode b_Rule_readOne 54 = .ok (.bipush (-33), 2) := by decide +kernel
theorem d_Rule_readOne_56 : decode b_Rule_readOne 56 = .ok (.invokevirtual 43, 3) := by decide +kernel
theorem d_Rule_readOne_59 : decode b_Rule_readOne 59 = .ok (.goto 17, 3) := by decide +kernel
theorem d_Rule_readOne_62 : decode b_Rule_readOne 62 = .ok (.aload_n 0, 1) := by decide +kernel
theorem d_Rule_readOne_63 : decode b_Rule_readOne 63 = .ok (.aload_n 1, 1) := by decide +kernel
theorem d_Rule_readOne_64 : decode b_Rule_readOne 64 = .ok (.iload_n 2, 1) := by decide +kernel
theorem d_Rule_readOne_65 : decode b_Rule_readOne 65 = .ok (.iconst 1, 1) := by decide +kernel
theorem d_Rule_readOne_66 : decode b_Rule_readOne 66 = .ok (.iadd, 1) := by decide +kernel
theorem d_Rule_readOne_67 : decode b_Rule_readOne 67 = .ok (.invokevirtual 57, 3) := by decide +kernel
theorem d_Rule_readOne_70 : decode b_Rule_readOne 70 = .ok (.aload_n 1, 1) := by decide +kernel
theorem d_Rule_readOne_71 : decode b_Rule_readOne 71 = .ok (.bipush 41, 2) := by decide +kernel
theorem d_Rule_readOne_73 : decode b_Rule_readOne 73 = .ok (.invokevirtual 60, 3) := by decide +kernel
theorem d_Rule_readOne_76 : decode b_Rule_readOne 76 = .ok (.return_, 1) := by decide +kernel
theorem d_Rule_readComparison_0 : decode b_Rule_readComparison 0 = .ok (.aload_n 0, 1) := by decide +kernel
theorem d_Rule_readComparison_1 : decode b_Rule_readComparison 1 = .ok (.aload_n 1, 1) := by decide +kernel
theorem d_Rule_readComparison_2 : decode b_Rule_readComparison 2 = .ok (.invokevirtual 63, 3) := by decide +kernel
theorem d_Rule_readComparison_5 : decode b_Rule_readComparison 5 = .ok (.aload_n 1, 1) := by decide +kernel
theorem d_Rule_readComparison_6 : decode b_Rule_readComparison 6 = .ok (.getfield 35, 3) := by decide +kernel
theorem d_Rule_readComparison_9 : decode b_Rule_readComparison 9 = .ok (.istore_n 2, 1) := by decide +kernel
theorem d_Rule_readComparison_10 : decode b_Rule_readComparison 10 = .ok (.iload_n 2, 1) := by decide +kernel
theorem d_Rule_readComparison_11 : decode b_Rule_readComparison 11 = .ok (.bipush 60, 2) := by decide +kernel
theorem d_Rule_readComparison_13 : decode b_Rule_readComparison 13 = .ok (.if_icmp .eq 20, 3) := by decide +kernel
theorem d_Rule_readComparison_16 : decode b_Rule_readComparison 16 = .ok (.iload_n 2, 1) := by decide +kernel
theorem d_Rule_readComparison_17 : decode b_Rule_readComparison 17 = .ok (.bipush 61, 2) := by decide +kernel
theorem d_Rule_readComparison_19 : decode b_Rule_readComparison 19 = .ok (.if_icmp .eq 14, 3) := by decide +kernel
theorem d_Rule_readComparison_22 : decode b_Rule_readComparison 22 = .ok (.iload_n 2, 1) := by decide +kernel
theorem d_Rule_readComparison_23 : decode b_Rule_readComparison 23 = .ok (.bipush 62, 2) := by decide +kernel
theorem d_Rule_readComparison_25 : decode b_Rule_readComparison 25 = .ok (.if_icmp .eq 8, 3) := by decide +kernel
theorem d_Rule_readComparison_28 : decode b_Rule_readComparison 28 = .ok (.aload_n 1, 1) := by decide +kernel
theorem d_Rule_readComparison_29 : decode b_Rule_readComparison 29 = .ok (.iconst 1, 1) := by decide +kernel
theorem d_Rule_readComparison_30 : decode b_Rule_readComparison 30 = .ok (.invokevirtual 54, 3) := by decide +kernel
theorem d_Rule_readComparison_33 : decode b_Rule_readComparison 33 = .ok (.aload_n 1, 1) := by decide +kernel
theorem d_Rule_readComparison_34 : decode b_Rule_readComparison 34 = .ok (.invokevirtual 40, 3) := by decide +kernel
theorem d_Rule_readComparison_37 : decode b_Rule_readComparison 37 = .ok (.aload_n 0, 1) := by decide +kernel
theorem d_Rule_readComparison_38 : decode b_Rule_readComparison 38 = .ok (.aload_n 1, 1) := by decide +kernel
theorem d_Rule_readComparison_39 : decode b_Rule_readComparison 39 = .ok (.invokevirtual 63, 3) := by decide +kernel
theorem d_Rule_readComparison_42 : decode b_Rule_readComparison 42 = .ok (.aload_n 0, 1) := by decide +kernel
theorem d_Rule_readComparison_43 : decode b_Rule_readComparison 43 = .ok (.iload_n 2, 1) := by decide +kernel
theorem d_Rule_readComparison_44 : decode b_Rule_readComparison 44 = .ok (.ineg, 1) := by decide +kernel
theorem d_Rule_readComparison_45 : decode b_Rule_readComparison 45 = .ok (.invokevirtual 43, 3) := by decide +kernel
theorem d_Rule_readComparison_48 : decode b_Rule_readComparison 48 = .ok (.return_, 1) := by decide +kernel
theorem d_Rule_readSum_0 : decode b_Rule_readSum 0 = .ok (.aload_n 0, 1) := by decide +kernel
theorem d_Rule_readSum_1 : decode b_Rule_readSum 1 = .ok (.aload_n 1, 1) := by decide +kernel
theorem d_Rule_readSum_2 : decode b_Rule_readSum 2 = .ok (.invokevirtual 66, 3) := by decide +kernel
theorem d_Rule_readSum_5 : decode b_Rule_readSum 5 = .ok (.iconst 0, 1) := by decide +kernel
theorem d_Rule_readSum_6 : decode b_Rule_readSum 6 = .ok (.istore_n 2, 1) := by decide +kernel
theorem d_Rule_readSum_7 : decode b_Rule_readSum 7 = .ok (.iload_n 2, 1) := by decide +kernel
theorem d_Rule_readSum_8 : decode b_Rule_readSum 8 = .ok (.sipush 800, 3) := by decide +kernel
theorem d_Rule_readSum_11 : decode b_Rule_readSum 11 = .ok (.if_icmp .ge 47, 3) := by decide +kernel
theorem d_Rule_readSum_14 : decode b_Rule_readSum 14 = .ok (.aload_n 1, 1) := by decide +kernel
theorem d_Rule_readSum_15 : decode b_Rule_readSum 15 = .ok (.getfield 35, 3) := by decide +kernel
theorem d_Rule_readSum_18 : decode b_Rule_readSum 18 = .ok (.bipush 43, 2) := by decide +kernel
theorem d_Rule_readSum_20 : decode b_Rule_readSum 20 = .ok (.if_icmp .eq 12, 3) := by decide +kernel
theorem d_Rule_readSum_23 : decode b_Rule_readSum 23 = .ok (.aload_n 1, 1) := by decide +kernel
theorem d_Rule_readSum_24 : decode b_Rule_readSum 24 = .ok (.getfield 35, 3) := by decide +kernel
theorem d_Rule_readSum_27 : decode b_Rule_readSum 27 = .ok (.bipush 45, 2) := by decide +kernel
theorem d_Rule_readSum_29 : decode b_Rule_readSum 29 = .ok (.if_icmp .ne 29, 3) := by decide +kernel
theorem d_Rule_readSum_32 : decode b_Rule_readSum 32 = .ok (.aload_n 1, 1) := by decide +kernel
theorem d_Rule_readSum_33 : decode b_Rule_readSum 33 = .ok (.getfield 35, 3) := by decide +kernel
theorem d_Rule_readSum_36 : decode b_Rule_readSum 36 = .ok (.istore_n 3, 1) := by decide +kernel
theorem d_Rule_readSum_37 : decode b_Rule_readSum 37 = .ok (.aload_n 1, 1) := by decide +kernel
theorem d_Rule_readSum_38 : decode b_Rule_readSum 38 = .ok (.invokevirtual 40, 3) := by decide +kernel
theorem d_Rule_readSum_41 : decode b_Rule_readSum 41 = .ok (.aload_n 0, 1) := by decide +kernel
theorem d_Rule_readSum_42 : decode b_Rule_readSum 42 = .ok (.aload_n 1, 1) := by decide +kernel
theorem d_Rule_readSum_43 : decode b_Rule_readSum 43 = .ok (.invokevirtual 66, 3) := by decide +kernel
theorem d_Rule_readSum_46 : decode b_Rule_readSum 46 = .ok (.aload_n 0, 1) := by decide +kernel
theorem d_Rule_readSum_47 : decode b_Rule_readSum 47 = .ok (.iload_n 3, 1) := by decide +kernel
theorem d_Rule_readSum_48 : decode b_Rule_readSum 48 = .ok (.ineg, 1) := by decide +kernel
theorem d_Rule_readSum_49 : decode b_Rule_readSum 49 = .ok (.invokevirtual 43, 3) := by decide +kernel
theorem d_Rule_readSum_52 : decode b_Rule_readSum 52 = .ok (.iinc 2 1, 3) := by decide +kernel
theorem d_Rule_readSum_55 : decode b_Rule_readSum 55 = .ok (.goto (-48), 3) := by decide +kernel
theorem d_Rule_readSum_58 : decode b_Rule_readSum 58 = .ok (.return_, 1) := by decide +kernel
theorem d_Rule_readValue_0 : decode b_Rule_readValue 0 = .ok (.aload_n 1, 1) := by decide +kernel
theorem d_Rule_readValue_1 : decode b_Rule_readValue 1 = .ok (.getfield 35, 3) := by decide +kernel
theorem d_Rule_readValue_4 : decode b_Rule_readValue 4 = .ok (.bipush (-2), 2) := by decide +kernel
theorem d_Rule_readValue_6 : decode b_Rule_readValue 6 = .ok (.if_icmp .ne 14, 3) := by decide +kernel
theorem d_Rule_readValue_9 : decode b_Rule_readValue 9 = .ok (.aload_n 0, 1) := by decide +kernel
theorem d_Rule_readValue_10 : decode b_Rule_readValue 10 = .ok (.aload_n 1, 1) := by decide +kernel
theorem d_Rule_readValue_11 : decode b_Rule_readValue 11 = .ok (.getfield 69, 3) := by decide +kernel
theorem d_Rule_readValue_14 : decode b_Rule_readValue 14 = .ok (.invokevirtual 43, 3) := by decide +kernel
theorem d_Rule_readValue_17 : decode b_Rule_readValue 17 = .ok (.goto 97, 3) := by decide +kernel
theorem d_Rule_readValue_20 : decode b_Rule_readValue 20 = .ok (.aload_n 1, 1) := by decide +kernel
theorem d_Rule_readValue_21 : decode b_Rule_readValue 21 = .ok (.ldc 72, 2) := by decide +kernel
theorem d_Rule_readValue_23 : decode b_Rule_readValue 23 = .ok (.invokevirtual 74, 3) := by decide +kernel
theorem d_Rule_readValue_26 : decode b_Rule_readValue 26 = .ok (.ifCond .eq 11, 3) := by decide +kernel
theorem d_Rule_readValue_29 : decode b_Rule_readValue 29 = .ok (.aload_n 0, 1) := by decide +kernel
theorem d_Rule_readValue_30 : decode b_Rule_readValue 30 = .ok (.iconst (-1), 1) := by decide +kernel
theorem d_Rule_readValue_31 : decode b_Rule_readValue 31 = .ok (.invokevirtual 43, 3) := by decide +kernel
theorem d_Rule_readValue_34 : decode b_Rule_readValue 34 = .ok (.goto 80, 3) := by decide +kernel
theorem d_Rule_readValue_37 : decode b_Rule_readValue 37 = .ok (.aload_n 1, 1) := by decide +kernel
theorem d_Rule_readValue_38 : decode b_Rule_readValue 38 = .ok (.ldc 78, 2) := by decide +kernel
theorem d_Rule_readValue_40 : decode b_Rule_readValue 40 = .ok (.invokevirtual 74, 3) := by decide +kernel
theorem d_Rule_readValue_43 : decode b_Rule_readValue 43 = .ok (.ifCond .eq 12, 3) := by decide +kernel
theorem d_Rule_readValue_46 : decode b_Rule_readValue 46 = .ok (.aload_n 0, 1) := by decide +kernel
theorem d_Rule_readValue_47 : decode b_Rule_readValue 47 = .ok (.bipush (-2), 2) := by decide +kernel
theorem d_Rule_readValue_49 : decode b_Rule_readValue 49 = .ok (.invokevirtual 43, 3) := by decide +kernel
theorem d_Rule_readValue_52 : decode b_Rule_readValue 52 = .ok (.goto 62, 3) := by decide +kernel
theorem d_Rule_readValue_55 : decode b_Rule_readValue 55 = .ok (.aload_n 1, 1) := by decide +kernel
theorem d_Rule_readValue_56 : decode b_Rule_readValue 56 = .ok (.ldc 80, 2) := by decide +kernel
theorem d_Rule_readValue_58 : decode b_Rule_readValue 58 = .ok (.invokevirtual 74, 3) := by decide +kernel
theorem d_Rule_readValue_61 : decode b_Rule_readValue 61 = .ok (.ifCond .eq 12, 3) := by decide +kernel
theorem d_Rule_readValue_64 : decode b_Rule_readValue 64 = .ok (.aload_n 0, 1) := by decide +kernel
theorem d_Rule_readValue_65 : decode b_Rule_readValue 65 = .ok (.bipush (-3), 2) := by decide +kernel
theorem d_Rule_readValue_67 : decode b_Rule_readValue 67 = .ok (.invokevirtual 43, 3) := by decide +kernel
theorem d_Rule_readValue_70 : decode b_Rule_readValue 70 = .ok (.goto 44, 3) := by decide +kernel
theorem d_Rule_readValue_73 : decode b_Rule_readValue 73 = .ok (.aload_n 1, 1) := by decide +kernel
theorem d_Rule_readValue_74 : decode b_Rule_readValue 74 = .ok (.ldc 82, 2) := by decide +kernel
theorem d_Rule_readValue_76 : decode b_Rule_readValue 76 = .ok (.invokevirtual 74, 3) := by decide +kernel
theorem d_Rule_readValue_79 : decode b_Rule_readValue 79 = .ok (.ifCond .eq 12, 3) := by decide +kernel
theorem d_Rule_readValue_82 : decode b_Rule_readValue 82 = .ok (.aload_n 0, 1) := by decide +kernel
theorem d_Rule_readValue_83 : decode b_Rule_readValue 83 = .ok (.bipush (-4), 2) := by decide +kernel
theorem d_Rule_readValue_85 : decode b_Rule_readValue 85 = .ok (.invokevirtual 43, 3) := by decide +kernel
theorem d_Rule_readValue_88 : decode b_Rule_readValue 88 = .ok (.goto 26, 3) := by decide +kernel
theorem d_Rule_readValue_91 : decode b_Rule_readValue 91 = .ok (.aload_n 1, 1) := by decide +kernel
theorem d_Rule_readValue_92 : decode b_Rule_readValue 92 = .ok (.ldc 84, 2) := by decide +kernel
theorem d_Rule_readValue_94 : decode b_Rule_readValue 94 = .ok (.invokevirtual 74, 3) := by decide +kernel
theorem d_Rule_readValue_97 : decode b_Rule_readValue 97 = .ok (.ifCond .eq 12, 3) := by decide +kernel
theorem d_Rule_readValue_100 : decode b_Rule_readValue 100 = .ok (.aload_n 0, 1) := by decide +kernel
theorem d_Rule_readValue_101 : decode b_Rule_readValue 101 = .ok (.bipush (-5), 2) := by decide +kernel
theorem d_Rule_readValue_103 : decode b_Rule_readValue 103 = .ok (.invokevirtual 43, 3) := by decide +kernel
theorem d_Rule_readValue_106 : decode b_Rule_readValue 106 = .ok (.goto 8, 3) := by decide +kernel
theorem d_Rule_readValue_109 : decode b_Rule_readValue 109 = .ok (.aload_n 1, 1) := by decide +kernel
theorem d_Rule_readValue_110 : decode b_Rule_readValue 110 = .ok (.iconst 1, 1) := by decide +kernel
theorem d_Rule_readValue_111 : decode b_Rule_readValue 111 = .ok (.invokevirtual 54, 3) := by decide +kernel
theorem d_Rule_readValue_114 : decode b_Rule_readValue 114 = .ok (.aload_n 1, 1) := by decide +kernel
theorem d_Rule_readValue_115 : decode b_Rule_readValue 115 = .ok (.invokevirtual 40, 3) := by decide +kernel
theorem d_Rule_readValue_118 : decode b_Rule_readValue 118 = .ok (.return_, 1) := by decide +kernel
theorem d_Rule_write_0 : decode b_Rule_write 0 = .ok (.aload_n 0, 1) := by decide +kernel
theorem d_Rule_write_1 : decode b_Rule_write 1 = .ok (.getfield 24, 3) := by decide +kernel
theorem d_Rule_write_4 : decode b_Rule_write 4 = .ok (.sipush 800, 3) := by decide +kernel
theorem d_Rule_write_7 : decode b_Rule_write 7 = .ok (.if_icmp .ge 23, 3) := by decide +kernel
theorem d_Rule_write_10 : decode b_Rule_write 10 = .ok (.aload_n 0, 1) := by decide +kernel
theorem d_Rule_write_11 : decode b_Rule_write 11 = .ok (.getfield 21, 3) := by decide +kernel
theorem d_Rule_write_14 : decode b_Rule_write 14 = .ok (.aload_n 0, 1) := by decide +kernel
theorem d_Rule_write_15 : decode b_Rule_write 15 = .ok (.getfield 24, 3) := by decide +kernel
theorem d_Rule_write_18 : decode b_Rule_write 18 = .ok (.iload_n 1, 1) := by decide +kernel
theorem d_Rule_write_19 : decode b_Rule_write 19 = .ok (.iastore, 1) := by decide +kernel
theorem d_Rule_write_20 : decode b_Rule_write 20 = .ok (.aload_n 0, 1) := by decide +kernel
theorem d_Rule_write_21 : decode b_Rule_write 21 = .ok (.dup, 1) := by decide +kernel
theorem d_Rule_write_22 : decode b_Rule_write 22 = .ok (.getfield 24, 3) := by decide +kernel
theorem d_Rule_write_25 : decode b_Rule_write 25 = .ok (.iconst 1, 1) := by decide +kernel
theorem d_Rule_write_26 : decode b_Rule_write 26 = .ok (.iadd, 1) := by decide +kernel
theorem d_Rule_write_27 : decode b_Rule_write 27 = .ok (.putfield 24, 3) := by decide +kernel
theorem d_Rule_write_30 : decode b_Rule_write 30 = .ok (.return_, 1) := by decide +kernel
theorem d_Rule_setPlayer_0 : decode b_Rule_setPlayer 0 = .ok (.aload_n 0, 1) := by decide +kernel
theorem d_Rule_setPlayer_1 : decode b_Rule_setPlayer 1 = .ok (.getfield 11, 3) := by decide +kernel
theorem d_Rule_setPlayer_4 : decode b_Rule_setPlayer 4 = .ok (.iconst 0, 1) := by decide +kernel
theorem d_Rule_setPlayer_5 : decode b_Rule_setPlayer 5 = .ok (.iload_n 1, 1) := by decide +kernel
theorem d_Rule_setPlayer_6 : decode b_Rule_setPlayer 6 = .ok (.iastore, 1) := by decide +kernel
theorem d_Rule_setPlayer_7 : decode b_Rule_setPlayer 7 = .ok (.aload_n 0, 1) := by decide +kernel
theorem d_Rule_setPlayer_8 : decode b_Rule_setPlayer 8 = .ok (.getfield 11, 3) := by decide +kernel
theorem d_Rule_setPlayer_11 : decode b_Rule_setPlayer 11 = .ok (.iconst 2, 1) := by decide +kernel
theorem d_Rule_setPlayer_12 : decode b_Rule_setPlayer 12 = .ok (.iload_n 2, 1) := by decide +kernel
theorem d_Rule_setPlayer_13 : decode b_Rule_setPlayer 13 = .ok (.iastore, 1) := by decide +kernel
theorem d_Rule_setPlayer_14 : decode b_Rule_setPlayer 14 = .ok (.aload_n 0, 1) := by decide +kernel
theorem d_Rule_setPlayer_15 : decode b_Rule_setPlayer 15 = .ok (.getfield 11, 3) := by decide +kernel
theorem d_Rule_setPlayer_18 : decode b_Rule_setPlayer 18 = .ok (.iconst 3, 1) := by decide +kernel
theorem d_Rule_setPlayer_19 : decode b_Rule_setPlayer 19 = .ok (.iload_n 3, 1) := by decide +kernel
theorem d_Rule_setPlayer_20 : decode b_Rule_setPlayer 20 = .ok (.iastore, 1) := by decide +kernel
theorem d_Rule_setPlayer_21 : decode b_Rule_setPlayer 21 = .ok (.return_, 1) := by decide +kernel
theorem d_Rule_setDay_0 : decode b_Rule_setDay 0 = .ok (.aload_n 0, 1) := by decide +kernel
theorem d_Rule_setDay_1 : decode b_Rule_setDay 1 = .ok (.getfield 11, 3) := by decide +kernel
theorem d_Rule_setDay_4 : decode b_Rule_setDay 4 = .ok (.iconst 4, 1) := by decide +kernel
theorem d_Rule_setDay_5 : decode b_Rule_setDay 5 = .ok (.iload_n 1, 1) := by decide +kernel
theorem d_Rule_setDay_6 : decode b_Rule_setDay 6 = .ok (.iastore, 1) := by decide +kernel
theorem d_Rule_setDay_7 : decode b_Rule_setDay 7 = .ok (.aload_n 0, 1) := by decide +kernel
theorem d_Rule_setDay_8 : decode b_Rule_setDay 8 = .ok (.getfield 11, 3) := by decide +kernel
theorem d_Rule_setDay_11 : decode b_Rule_setDay 11 = .ok (.iconst 1, 1) := by decide +kernel
theorem d_Rule_setDay_12 : decode b_Rule_setDay 12 = .ok (.iload_n 2, 1) := by decide +kernel
theorem d_Rule_setDay_13 : decode b_Rule_setDay 13 = .ok (.iastore, 1) := by decide +kernel
theorem d_Rule_setDay_14 : decode b_Rule_setDay 14 = .ok (.return_, 1) := by decide +kernel
theorem d_Rule_allows_0 : decode b_Rule_allows 0 = .ok (.aload_n 0, 1) := by decide +kernel
theorem d_Rule_allows_1 : decode b_Rule_allows 1 = .ok (.getfield 28, 3) := by decide +kernel
theorem d_Rule_allows_4 : decode b_Rule_allows 4 = .ok (.ifCond .ne 5, 3) := by decide +kernel
theorem d_Rule_allows_7 : decode b_Rule_allows 7 = .ok (.iconst 1, 1) := by decide +kernel
theorem d_Rule_allows_8 : decode b_Rule_allows 8 = .ok (.ireturn, 1) := by decide +kernel
theorem d_Rule_allows_9 : decode b_Rule_allows 9 = .ok (.aload_n 0, 1) := by decide +kernel
theorem d_Rule_allows_10 : decode b_Rule_allows 10 = .ok (.iconst 0, 1) := by decide +kernel
theorem d_Rule_allows_11 : decode b_Rule_allows 11 = .ok (.putfield 86, 3) := by decide +kernel
theorem d_Rule_allows_14 : decode b_Rule_allows 14 = .ok (.iconst 0, 1) := by decide +kernel
theorem d_Rule_allows_15 : decode b_Rule_allows 15 = .ok (.istore_n 1, 1) := by decide +kernel
theorem d_Rule_allows_16 : decode b_Rule_allows 16 = .ok (.iload_n 1, 1) := by decide +kernel
theorem d_Rule_allows_17 : decode b_Rule_allows 17 = .ok (.aload_n 0, 1) := by decide +kernel
theorem d_Rule_allows_18 : decode b_Rule_allows 18 = .ok (.getfield 28, 3) := by decide +kernel
theorem d_Rule_allows_21 : decode b_Rule_allows 21 = .ok (.if_icmp .ge 19, 3) := by decide +kernel
theorem d_Rule_allows_24 : decode b_Rule_allows 24 = .ok (.aload_n 0, 1) := by decide +kernel
theorem d_Rule_allows_25 : decode b_Rule_allows 25 = .ok (.aload_n 0, 1) := by decide +kernel
theorem d_Rule_allows_26 : decode b_Rule_allows 26 = .ok (.getfield 18, 3) := by decide +kernel
theorem d_Rule_allows_29 : decode b_Rule_allows 29 = .ok (.iload_n 1, 1) := by decide +kernel
theorem d_Rule_allows_30 : decode b_Rule_allows 30 = .ok (.iaload, 1) := by decide +kernel
theorem d_Rule_allows_31 : decode b_Rule_allows 31 = .ok (.invokevirtual 89, 3) := by decide +kernel
theorem d_Rule_allows_34 : decode b_Rule_allows 34 = .ok (.iinc 1 1, 3) := by decide +kernel
theorem d_Rule_allows_37 : decode b_Rule_allows 37 = .ok (.goto (-21), 3) := by decide +kernel
theorem d_Rule_allows_40 : decode b_Rule_allows 40 = .ok (.aload_n 0, 1) := by decide +kernel
theorem d_Rule_allows_41 : decode b_Rule_allows 41 = .ok (.invokevirtual 92, 3) := by decide +kernel
theorem d_Rule_allows_44 : decode b_Rule_allows 44 = .ok (.ifCond .eq 7, 3) := by decide +kernel
theorem d_Rule_allows_47 : decode b_Rule_allows 47 = .ok (.iconst 1, 1) := by decide +kernel
theorem d_Rule_allows_48 : decode b_Rule_allows 48 = .ok (.goto 4, 3) := by decide +kernel
theorem d_Rule_allows_51 : decode b_Rule_allows 51 = .ok (.iconst 0, 1) := by decide +kernel
theorem d_Rule_allows_52 : decode b_Rule_allows 52 = .ok (.ireturn, 1) := by decide +kernel
theorem d_Rule_work_0 : decode b_Rule_work 0 = .ok (.iload_n 1, 1) := by decide +kernel
theorem d_Rule_work_1 : decode b_Rule_work 1 = .ok (.ifCond .lt 11, 3) := by decide +kernel
theorem d_Rule_work_4 : decode b_Rule_work 4 = .ok (.aload_n 0, 1) := by decide +kernel
theorem d_Rule_work_5 : decode b_Rule_work 5 = .ok (.iload_n 1, 1) := by decide +kernel
theorem d_Rule_work_6 : decode b_Rule_work 6 = .ok (.invokevirtual 96, 3) := by decide +kernel
theorem d_Rule_work_9 : decode b_Rule_work 9 = .ok (.goto 70, 3) := by decide +kernel
theorem d_Rule_work_12 : decode b_Rule_work 12 = .ok (.iload_n 1, 1) := by decide +kernel
theorem d_Rule_work_13 : decode b_Rule_work 13 = .ok (.bipush (-5), 2) := by decide +kernel
theorem d_Rule_work_15 : decode b_Rule_work 15 = .ok (.if_icmp .lt 18, 3) := by decide +kernel
theorem d_Rule_work_18 : decode b_Rule_work 18 = .ok (.aload_n 0, 1) := by decide +kernel
theorem d_Rule_work_19 : decode b_Rule_work 19 = .ok (.aload_n 0, 1) := by decide +kernel
theorem d_Rule_work_20 : decode b_Rule_work 20 = .ok (.getfield 11, 3) := by decide +kernel
theorem d_Rule_work_23 : decode b_Rule_work 23 = .ok (.iconst (-1), 1) := by decide +kernel
theorem d_Rule_work_24 : decode b_Rule_work 24 = .ok (.iload_n 1, 1) := by decide +kernel
theorem d_Rule_work_25 : decode b_Rule_work 25 = .ok (.isub, 1) := by decide +kernel
theorem d_Rule_work_26 : decode b_Rule_work 26 = .ok (.iaload, 1) := by decide +kernel
theorem d_Rule_work_27 : decode b_Rule_work 27 = .ok (.invokevirtual 96, 3) := by decide +kernel
theorem d_Rule_work_30 : decode b_Rule_work 30 = .ok (.goto 49, 3) := by decide +kernel
theorem d_Rule_work_33 : decode b_Rule_work 33 = .ok (.iload_n 1, 1) := by decide +kernel
theorem d_Rule_work_34 : decode b_Rule_work 34 = .ok (.bipush (-33), 2) := by decide +kernel
theorem d_Rule_work_36 : decode b_Rule_work 36 = .ok (.if_icmp .ne 22, 3) := by decide +kernel
theorem d_Rule_work_39 : decode b_Rule_work 39 = .ok (.aload_n 0, 1) := by decide +kernel
theorem d_Rule_work_40 : decode b_Rule_work 40 = .ok (.aload_n 0, 1) := by decide +kernel
theorem d_Rule_work_41 : decode b_Rule_work 41 = .ok (.invokevirtual 92, 3) := by decide +kernel
theorem d_Rule_work_44 : decode b_Rule_work 44 = .ok (.ifCond .ne 7, 3) := by decide +kernel
theorem d_Rule_work_47 : decode b_Rule_work 47 = .ok (.iconst 1, 1) := by decide +kernel
theorem d_Rule_work_48 : decode b_Rule_work 48 = .ok (.goto 4, 3) := by decide +kernel
theorem d_Rule_work_51 : decode b_Rule_work 51 = .ok (.iconst 0, 1) := by decide +kernel
theorem d_Rule_work_52 : decode b_Rule_work 52 = .ok (.invokevirtual 96, 3) := by decide +kernel
theorem d_Rule_work_55 : decode b_Rule_work 55 = .ok (.goto 24, 3) := by decide +kernel
theorem d_Rule_work_58 : decode b_Rule_work 58 = .ok (.aload_n 0, 1) := by decide +kernel
theorem d_Rule_work_59 : decode b_Rule_work 59 = .ok (.invokevirtual 92, 3) := by decide +kernel
theorem d_Rule_work_62 : decode b_Rule_work 62 = .ok (.istore_n 2, 1) := by decide +kernel
theorem d_Rule_work_63 : decode b_Rule_work 63 = .ok (.aload_n 0, 1) := by decide +kernel
theorem d_Rule_work_64 : decode b_Rule_work 64 = .ok (.invokevirtual 92, 3) := by decide +kernel
theorem d_Rule_work_67 : decode b_Rule_work 67 = .ok (.istore_n 3, 1) := by decide +kernel
theorem d_Rule_work_68 : decode b_Rule_work 68 = .ok (.aload_n 0, 1) := by decide +kernel
theorem d_Rule_work_69 : decode b_Rule_work 69 = .ok (.iload_n 1, 1) := by decide +kernel
theorem d_Rule_work_70 : decode b_Rule_work 70 = .ok (.ineg, 1) := by decide +kernel
theorem d_Rule_work_71 : decode b_Rule_work 71 = .ok (.iload_n 3, 1) := by decide +kernel
theorem d_Rule_work_72 : decode b_Rule_work 72 = .ok (.iload_n 2, 1) := by decide +kernel
theorem d_Rule_work_73 : decode b_Rule_work 73 = .ok (.invokestatic 99, 3) := by decide +kernel
theorem d_Rule_work_76 : decode b_Rule_work 76 = .ok (.invokevirtual 96, 3) := by decide +kernel
theorem d_Rule_work_79 : decode b_Rule_work 79 = .ok (.return_, 1) := by decide +kernel
theorem d_Rule_join_0 : decode b_Rule_join 0 = .ok (.iload_n 0, 1) := by decide +kernel
theorem d_Rule_join_1 : decode b_Rule_join 1 = .ok (.lookupswitch 104 #[(38, 100), (43, 59), (45, 63), (60, 67), (61, 78), (62, 89)], 59) := by decide +kernel
theorem d_Rule_join_60 : decode b_Rule_join 60 = .ok (.iload_n 1, 1) := by decide +kernel
theorem d_Rule_join_61 : decode b_Rule_join 61 = .ok (.iload_n 2, 1) := by decide +kernel
theorem d_Rule_join_62 : decode b_Rule_join 62 = .ok (.iadd, 1) := by decide +kernel
theorem d_Rule_join_63 : decode b_Rule_join 63 = .ok (.ireturn, 1) := by decide +kernel
theorem d_Rule_join_64 : decode b_Rule_join 64 = .ok (.iload_n 1, 1) := by decide +kernel
theorem d_Rule_join_65 : decode b_Rule_join 65 = .ok (.iload_n 2, 1) := by decide +kernel
theorem d_Rule_join_66 : decode b_Rule_join 66 = .ok (.isub, 1) := by decide +kernel
theorem d_Rule_join_67 : decode b_Rule_join 67 = .ok (.ireturn, 1) := by decide +kernel
theorem d_Rule_join_68 : decode b_Rule_join 68 = .ok (.iload_n 1, 1) := by decide +kernel
theorem d_Rule_join_69 : decode b_Rule_join 69 = .ok (.iload_n 2, 1) := by decide +kernel
theorem d_Rule_join_70 : decode b_Rule_join 70 = .ok (.if_icmp .ge 7, 3) := by decide +kernel
theorem d_Rule_join_73 : decode b_Rule_join 73 = .ok (.iconst 1, 1) := by decide +kernel
theorem d_Rule_join_74 : decode b_Rule_join 74 = .ok (.goto 4, 3) := by decide +kernel
theorem d_Rule_join_77 : decode b_Rule_join 77 = .ok (.iconst 0, 1) := by decide +kernel
theorem d_Rule_join_78 : decode b_Rule_join 78 = .ok (.ireturn, 1) := by decide +kernel
theorem d_Rule_join_79 : decode b_Rule_join 79 = .ok (.iload_n 1, 1) := by decide +kernel
theorem d_Rule_join_80 : decode b_Rule_join 80 = .ok (.iload_n 2, 1) := by decide +kernel
theorem d_Rule_join_81 : decode b_Rule_join 81 = .ok (.if_icmp .ne 7, 3) := by decide +kernel
theorem d_Rule_join_84 : decode b_Rule_join 84 = .ok (.iconst 1, 1) := by decide +kernel
theorem d_Rule_join_85 : decode b_Rule_join 85 = .ok (.goto 4, 3) := by decide +kernel
theorem d_Rule_join_88 : decode b_Rule_join 88 = .ok (.iconst 0, 1) := by decide +kernel
theorem d_Rule_join_89 : decode b_Rule_join 89 = .ok (.ireturn, 1) := by decide +kernel
theorem d_Rule_join_90 : decode b_Rule_join 90 = .ok (.iload_n 1, 1) := by decide +kernel
theorem d_Rule_join_91 : decode b_Rule_join 91 = .ok (.iload_n 2, 1) := by decide +kernel
theorem d_Rule_join_92 : decode b_Rule_join 92 = .ok (.if_icmp .le 7, 3) := by decide +kernel
theorem d_Rule_join_95 : decode b_Rule_join 95 = .ok (.iconst 1, 1) := by decide +kernel
theorem d_Rule_join_96 : decode b_Rule_join 96 = .ok (.goto 4, 3) := by decide +kernel
theorem d_Rule_join_99 : decode b_Rule_join 99 = .ok (.iconst 0, 1) := by decide +kernel
theorem d_Rule_join_100 : decode b_Rule_join 100 = .ok (.ireturn, 1) := by decide +kernel
theorem d_Rule_join_101 : decode b_Rule_join 101 = .ok (.iload_n 1, 1) := by decide +kernel
theorem d_Rule_join_102 : decode b_Rule_join 102 = .ok (.iload_n 2, 1) := by decide +kernel
theorem d_Rule_join_103 : decode b_Rule_join 103 = .ok (.iand, 1) := by decide +kernel
theorem d_Rule_join_104 : decode b_Rule_join 104 = .ok (.ireturn, 1) := by decide +kernel
theorem d_Rule_join_105 : decode b_Rule_join 105 = .ok (.iload_n 1, 1) := by decide +kernel
theorem d_Rule_join_106 : decode b_Rule_join 106 = .ok (.iload_n 2, 1) := by decide +kernel
theorem d_Rule_join_107 : decode b_Rule_join 107 = .ok (.ior, 1) := by decide +kernel
theorem d_Rule_join_108 : decode b_Rule_join 108 = .ok (.ireturn, 1) := by decide +kernel
theorem d_Rule_push_0 : decode b_Rule_push 0 = .ok (.aload_n 0, 1) := by decide +kernel
theorem d_Rule_push_1 : decode b_Rule_push 1 = .ok (.getfield 86, 3) := by decide +kernel
theorem d_Rule_push_4 : decode b_Rule_push 4 = .ok (.bipush 32, 2) := by decide +kernel
theorem d_Rule_push_6 : decode b_Rule_push 6 = .ok (.if_icmp .ge 23, 3) := by decide +kernel
theorem d_Rule_push_9 : decode b_Rule_push 9 = .ok (.aload_n 0, 1) := by decide +kernel
theorem d_Rule_push_10 : decode b_Rule_push 10 = .ok (.getfield 15, 3) := by decide +kernel
theorem d_Rule_push_13 : decode b_Rule_push 13 = .ok (.aload_n 0, 1) := by decide +kernel
theorem d_Rule_push_14 : decode b_Rule_push 14 = .ok (.getfield 86, 3) := by decide +kernel
theorem d_Rule_push_17 : decode b_Rule_push 17 = .ok (.iload_n 1, 1) := by decide +kernel
theorem d_Rule_push_18 : decode b_Rule_push 18 = .ok (.iastore, 1) := by decide +kernel
theorem d_Rule_push_19 : decode b_Rule_push 19 = .ok (.aload_n 0, 1) := by decide +kernel
theorem d_Rule_push_20 : decode b_Rule_push 20 = .ok (.dup, 1) := by decide +kernel
theorem d_Rule_push_21 : decode b_Rule_push 21 = .ok (.getfield 86, 3) := by decide +kernel
theorem d_Rule_push_24 : decode b_Rule_push 24 = .ok (.iconst 1, 1) := by decide +kernel
theorem d_Rule_push_25 : decode b_Rule_push 25 = .ok (.iadd, 1) := by decide +kernel
theorem d_Rule_push_26 : decode b_Rule_push 26 = .ok (.putfield 86, 3) := by decide +kernel
theorem d_Rule_push_29 : decode b_Rule_push 29 = .ok (.return_, 1) := by decide +kernel
theorem d_Rule_pop_0 : decode b_Rule_pop 0 = .ok (.aload_n 0, 1) := by decide +kernel
theorem d_Rule_pop_1 : decode b_Rule_pop 1 = .ok (.getfield 86, 3) := by decide +kernel
theorem d_Rule_pop_4 : decode b_Rule_pop 4 = .ok (.ifCond .gt 5, 3) := by decide +kernel
theorem d_Rule_pop_7 : decode b_Rule_pop 7 = .ok (.iconst 0, 1) := by decide +kernel
theorem d_Rule_pop_8 : decode b_Rule_pop 8 = .ok (.ireturn, 1) := by decide +kernel
theorem d_Rule_pop_9 : decode b_Rule_pop 9 = .ok (.aload_n 0, 1) := by decide +kernel
theorem d_Rule_pop_10 : decode b_Rule_pop 10 = .ok (.dup, 1) := by decide +kernel
theorem d_Rule_pop_11 : decode b_Rule_pop 11 = .ok (.getfield 86, 3) := by decide +kernel
theorem d_Rule_pop_14 : decode b_Rule_pop 14 = .ok (.iconst 1, 1) := by decide +kernel
theorem d_Rule_pop_15 : decode b_Rule_pop 15 = .ok (.isub, 1) := by decide +kernel
theorem d_Rule_pop_16 : decode b_Rule_pop 16 = .ok (.putfield 86, 3) := by decide +kernel
theorem d_Rule_pop_19 : decode b_Rule_pop 19 = .ok (.aload_n 0, 1) := by decide +kernel
theorem d_Rule_pop_20 : decode b_Rule_pop 20 = .ok (.getfield 15, 3) := by decide +kernel
theorem d_Rule_pop_23 : decode b_Rule_pop 23 = .ok (.aload_n 0, 1) := by decide +kernel
theorem d_Rule_pop_24 : decode b_Rule_pop 24 = .ok (.getfield 86, 3) := by decide +kernel
theorem d_Rule_pop_27 : decode b_Rule_pop 27 = .ok (.iaload, 1) := by decide +kernel
theorem d_Rule_pop_28 : decode b_Rule_pop 28 = .ok (.ireturn, 1) := by decide +kernel
theorem d_Seater_init_0 : decode b_Seater_init 0 = .ok (.aload_n 0, 1) := by decide +kernel
theorem d_Seater_init_1 : decode b_Seater_init 1 = .ok (.invokespecial 7, 3) := by decide +kernel
theorem d_Seater_init_4 : decode b_Seater_init 4 = .ok (.aload_n 0, 1) := by decide +kernel
theorem d_Seater_init_5 : decode b_Seater_init 5 = .ok (.sipush 240, 3) := by decide +kernel
theorem d_Seater_init_8 : decode b_Seater_init 8 = .ok (.newarray .long, 2) := by decide +kernel
theorem d_Seater_init_10 : decode b_Seater_init 10 = .ok (.putfield 13, 3) := by decide +kernel
theorem d_Seater_init_13 : decode b_Seater_init 13 = .ok (.aload_n 0, 1) := by decide +kernel
theorem d_Seater_init_14 : decode b_Seater_init 14 = .ok (.bipush 11, 2) := by decide +kernel
theorem d_Seater_init_16 : decode b_Seater_init 16 = .ok (.newarray .long, 2) := by decide +kernel
theorem d_Seater_init_18 : decode b_Seater_init 18 = .ok (.putfield 17, 3) := by decide +kernel
theorem d_Seater_init_21 : decode b_Seater_init 21 = .ok (.aload_n 0, 1) := by decide +kernel
theorem d_Seater_init_22 : decode b_Seater_init 22 = .ok (.bipush 25, 2) := by decide +kernel
theorem d_Seater_init_24 : decode b_Seater_init 24 = .ok (.newarray .long, 2) := by decide +kernel
theorem d_Seater_init_26 : decode b_Seater_init 26 = .ok (.putfield 20, 3) := by decide +kernel
theorem d_Seater_init_29 : decode b_Seater_init 29 = .ok (.aload_n 0, 1) := by decide +kernel
theorem d_Seater_init_30 : decode b_Seater_init 30 = .ok (.bipush 25, 2) := by decide +kernel
theorem d_Seater_init_32 : decode b_Seater_init 32 = .ok (.newarray .long, 2) := by decide +kernel
theorem d_Seater_init_34 : decode b_Seater_init 34 = .ok (.putfield 23, 3) := by decide +kernel
theorem d_Seater_init_37 : decode b_Seater_init 37 = .ok (.aload_n 0, 1) := by decide +kernel
theorem d_Seater_init_38 : decode b_Seater_init 38 = .ok (.bipush 25, 2) := by decide +kernel
theorem d_Seater_init_40 : decode b_Seater_init 40 = .ok (.newarray .int, 2) := by decide +kernel
theorem d_Seater_init_42 : decode b_Seater_init 42 = .ok (.putfield 26, 3) := by decide +kernel
theorem d_Seater_init_45 : decode b_Seater_init 45 = .ok (.aload_n 0, 1) := by decide +kernel
theorem d_Seater_init_46 : decode b_Seater_init 46 = .ok (.bipush 25, 2) := by decide +kernel
theorem d_Seater_init_48 : decode b_Seater_init 48 = .ok (.newarray .int, 2) := by decide +kernel
theorem d_Seater_init_50 : decode b_Seater_init 50 = .ok (.putfield 30, 3) := by decide +kernel
theorem d_Seater_init_53 : decode b_Seater_init 53 = .ok (.return_, 1) := by decide +kernel
theorem d_Seater_seatAnew_0 : decode b_Seater_seatAnew 0 = .ok (.iconst 0, 1) := by decide +kernel
theorem d_Seater_seatAnew_1 : decode b_Seater_seatAnew 1 = .ok (.istore_n 3, 1) := by decide +kernel
theorem d_Seater_seatAnew_2 : decode b_Seater_seatAnew 2 = .ok (.iload_n 3, 1) := by decide +kernel
theorem d_Seater_seatAnew_3 : decode b_Seater_seatAnew 3 = .ok (.aload_n 1, 1) := by decide +kernel
theorem d_Seater_seatAnew_4 : decode b_Seater_seatAnew 4 = .ok (.getfield 33, 3) := by decide +kernel
theorem d_Seater_seatAnew_7 : decode b_Seater_seatAnew 7 = .ok (.if_icmp .ge 96, 3) := by decide +kernel
theorem d_Seater_seatAnew_10 : decode b_Seater_seatAnew 10 = .ok (.iconst 0, 1) := by decide +kernel
theorem d_Seater_seatAnew_11 : decode b_Seater_seatAnew 11 = .ok (.istore 4, 2) := by decide +kernel
theorem d_Seater_seatAnew_13 : decode b_Seater_seatAnew 13 = .ok (.iload 4, 2) := by decide +kernel
theorem d_Seater_seatAnew_15 : decode b_Seater_seatAnew 15 = .ok (.aload_n 2, 1) := by decide +kernel
theorem d_Seater_seatAnew_16 : decode b_Seater_seatAnew 16 = .ok (.getfield 39, 3) := by decide +kernel
theorem d_Seater_seatAnew_19 : decode b_Seater_seatAnew 19 = .ok (.if_icmp .ge 68, 3) := by decide +kernel
theorem d_Seater_seatAnew_22 : decode b_Seater_seatAnew 22 = .ok (.aload_n 2, 1) := by decide +kernel
theorem d_Seater_seatAnew_23 : decode b_Seater_seatAnew 23 = .ok (.iload 4, 2) := by decide +kernel
theorem d_Seater_seatAnew_25 : decode b_Seater_seatAnew 25 = .ok (.invokevirtual 44, 3) := by decide +kernel
theorem d_Seater_seatAnew_28 : decode b_Seater_seatAnew 28 = .ok (.ifCond .eq 14, 3) := by decide +kernel
theorem d_Seater_seatAnew_31 : decode b_Seater_seatAnew 31 = .ok (.aload_n 2, 1) := by decide +kernel
theorem d_Seater_seatAnew_32 : decode b_Seater_seatAnew 32 = .ok (.iload 4, 2) := by decide +kernel
theorem d_Seater_seatAnew_34 : decode b_Seater_seatAnew 34 = .ok (.aload_n 1, 1) := by decide +kernel
theorem d_Seater_seatAnew_35 : decode b_Seater_seatAnew 35 = .ok (.iload_n 3, 1) := by decide +kernel
theorem d_Seater_seatAnew_36 : decode b_Seater_seatAnew 36 = .ok (.invokevirtual 48, 3) := by decide +kernel
theorem d_Seater_seatAnew_39 : decode b_Seater_seatAnew 39 = .ok (.goto 4, 3) := by decide +kernel
theorem d_Seater_seatAnew_42 : decode b_Seater_seatAnew 42 = .ok (.iconst (-1), 1) := by decide +kernel
theorem d_Seater_seatAnew_43 : decode b_Seater_seatAnew 43 = .ok (.istore 5, 2) := by decide +kernel
theorem d_Seater_seatAnew_45 : decode b_Seater_seatAnew 45 = .ok (.aload_n 0, 1) := by decide +kernel
theorem d_Seater_seatAnew_46 : decode b_Seater_seatAnew 46 = .ok (.iload_n 3, 1) := by decide +kernel
theorem d_Seater_seatAnew_47 : decode b_Seater_seatAnew 47 = .ok (.iload 4, 2) := by decide +kernel
theorem d_Seater_seatAnew_49 : decode b_Seater_seatAnew 49 = .ok (.iload 5, 2) := by decide +kernel
theorem d_Seater_seatAnew_51 : decode b_Seater_seatAnew 51 = .ok (.iconst (-1), 1) := by decide +kernel
theorem d_Seater_seatAnew_52 : decode b_Seater_seatAnew 52 = .ok (.if_icmp .ne 9, 3) := by decide +kernel
theorem d_Seater_seatAnew_55 : decode b_Seater_seatAnew 55 = .ok (.ldc2_w 52, 3) := by decide +kernel
theorem d_Seater_seatAnew_58 : decode b_Seater_seatAnew 58 = .ok (.goto 20, 3) := by decide +kernel
theorem d_Seater_seatAnew_61 : decode b_Seater_seatAnew 61 = .ok (.iload 5, 2) := by decide +kernel
theorem d_Seater_seatAnew_63 : decode b_Seater_seatAnew 63 = .ok (.i2l, 1) := by decide +kernel
theorem d_Seater_seatAnew_64 : decode b_Seater_seatAnew 64 = .ok (.ldc2_w 54, 3) := by decide +kernel
theorem d_Seater_seatAnew_67 : decode b_Seater_seatAnew 67 = .ok (.lmul, 1) := by decide +kernel
theorem d_Seater_seatAnew_68 : decode b_Seater_seatAnew 68 = .ok (.iload 4, 2) := by decide +kernel
theorem d_Seater_seatAnew_70 : decode b_Seater_seatAnew 70 = .ok (.i2l, 1) := by decide +kernel
theorem d_Seater_seatAnew_71 : decode b_Seater_seatAnew 71 = .ok (.getstatic 56, 3) := by decide +kernel
theorem d_Seater_seatAnew_74 : decode b_Seater_seatAnew 74 = .ok (.iload_n 3, 1) := by decide +kernel
theorem d_Seater_seatAnew_75 : decode b_Seater_seatAnew 75 = .ok (.laload, 1) := by decide +kernel
theorem d_Seater_seatAnew_76 : decode b_Seater_seatAnew 76 = .ok (.lmul, 1) := by decide +kernel
theorem d_Seater_seatAnew_77 : decode b_Seater_seatAnew 77 = .ok (.ladd, 1) := by decide +kernel
theorem d_Seater_seatAnew_78 : decode b_Seater_seatAnew 78 = .ok (.invokevirtual 59, 3) := by decide +kernel
theorem d_Seater_seatAnew_81 : decode b_Seater_seatAnew 81 = .ok (.iinc 4 1, 3) := by decide +kernel
theorem d_Seater_seatAnew_84 : decode b_Seater_seatAnew 84 = .ok (.goto (-71), 3) := by decide +kernel
theorem d_Seater_seatAnew_87 : decode b_Seater_seatAnew 87 = .ok (.aload_n 0, 1) := by decide +kernel
theorem d_Seater_seatAnew_88 : decode b_Seater_seatAnew 88 = .ok (.aload_n 1, 1) := by decide +kernel
theorem d_Seater_seatAnew_89 : decode b_Seater_seatAnew 89 = .ok (.aload_n 2, 1) := by decide +kernel
theorem d_Seater_seatAnew_90 : decode b_Seater_seatAnew 90 = .ok (.iload_n 3, 1) := by decide +kernel
theorem d_Seater_seatAnew_91 : decode b_Seater_seatAnew 91 = .ok (.ldc2_w 63, 3) := by decide +kernel
theorem d_Seater_seatAnew_94 : decode b_Seater_seatAnew 94 = .ok (.invokevirtual 65, 3) := by decide +kernel
theorem d_Seater_seatAnew_97 : decode b_Seater_seatAnew 97 = .ok (.iinc 3 1, 3) := by decide +kernel
theorem d_Seater_seatAnew_100 : decode b_Seater_seatAnew 100 = .ok (.goto (-98), 3) := by decide +kernel
theorem d_Seater_seatAnew_103 : decode b_Seater_seatAnew 103 = .ok (.aload_n 0, 1) := by decide +kernel
theorem d_Seater_seatAnew_104 : decode b_Seater_seatAnew 104 = .ok (.aload_n 1, 1) := by decide +kernel
theorem d_Seater_seatAnew_105 : decode b_Seater_seatAnew 105 = .ok (.getfield 33, 3) := by decide +kernel
theorem d_Seater_seatAnew_108 : decode b_Seater_seatAnew 108 = .ok (.aload_n 2, 1) := by decide +kernel
theorem d_Seater_seatAnew_109 : decode b_Seater_seatAnew 109 = .ok (.getfield 39, 3) := by decide +kernel
theorem d_Seater_seatAnew_112 : decode b_Seater_seatAnew 112 = .ok (.invokevirtual 69, 3) := by decide +kernel
theorem d_Seater_seatAnew_115 : decode b_Seater_seatAnew 115 = .ok (.aload_n 0, 1) := by decide +kernel
theorem d_Seater_seatAnew_116 : decode b_Seater_seatAnew 116 = .ok (.aload_n 1, 1) := by decide +kernel
theorem d_Seater_seatAnew_117 : decode b_Seater_seatAnew 117 = .ok (.aload_n 2, 1) := by decide +kernel
theorem d_Seater_seatAnew_118 : decode b_Seater_seatAnew 118 = .ok (.getfield 39, 3) := by decide +kernel
theorem d_Seater_seatAnew_121 : decode b_Seater_seatAnew 121 = .ok (.invokevirtual 73, 3) := by decide +kernel
theorem d_Seater_seatAnew_124 : decode b_Seater_seatAnew 124 = .ok (.pop, 1) := by decide +kernel
theorem d_Seater_seatAnew_125 : decode b_Seater_seatAnew 125 = .ok (.return_, 1) := by decide +kernel
theorem d_Seater_seatWithFewestChanges_0 : decode b_Seater_seatWithFewestChanges 0 = .ok (.iconst 0, 1) := by decide +kernel
theorem d_Seater_seatWithFewestChanges_1 : decode b_Seater_seatWithFewestChanges 1 = .ok (.istore_n 3, 1) := by decide +kernel
theorem d_Seater_seatWithFewestChanges_2 : decode b_Seater_seatWithFewestChanges 2 = .ok (.iload_n 3, 1) := by decide +kernel
theorem d_Seater_seatWithFewestChanges_3 : decode b_Seater_seatWithFewestChanges 3 = .ok (.aload_n 1, 1) := by decide +kernel
theorem d_Seater_seatWithFewestChanges_4 : decode b_Seater_seatWithFewestChanges 4 = .ok (.getfield 33, 3) := by decide +kernel
theorem d_Seater_seatWithFewestChanges_7 : decode b_Seater_seatWithFewestChanges 7 = .ok (.if_icmp .ge 129, 3) := by decide +kernel
theorem d_Seater_seatWithFewestChanges_10 : decode b_Seater_seatWithFewestChanges 10 = .ok (.iconst 0, 1) := by decide +kernel
theorem d_Seater_seatWithFewestChanges_11 : decode b_Seater_seatWithFewestChanges 11 = .ok (.istore 4, 2) := by decide +kernel
theorem d_Seater_seatWithFewestChanges_13 : decode b_Seater_seatWithFewestChanges 13 = .ok (.iload 4, 2) := by decide +kernel
theorem d_Seater_seatWithFewestChanges_15 : decode b_Seater_seatWithFewestChanges 15 = .ok (.aload_n 2, 1) := by decide +kernel
theorem d_Seater_seatWithFewestChanges_16 : decode b_Seater_seatWithFewestChanges 16 = .ok (.getfield 39, 3) := by decide +kernel
theorem d_Seater_seatWithFewestChanges_19 : decode b_Seater_seatWithFewestChanges 19 = .ok (.if_icmp .ge 87, 3) := by decide +kernel
theorem d_Seater_seatWithFewestChanges_22 : decode b_Seater_seatWithFewestChanges 22 = .ok (.aload_n 2, 1) := by decide +kernel
theorem d_Seater_seatWithFewestChanges_23 : decode b_Seater_seatWithFewestChanges 23 = .ok (.iload 4, 2) := by decide +kernel
theorem d_Seater_seatWithFewestChanges_25 : decode b_Seater_seatWithFewestChanges 25 = .ok (.invokevirtual 44, 3) := by decide +kernel
theorem d_Seater_seatWithFewestChanges_28 : decode b_Seater_seatWithFewestChanges 28 = .ok (.ifCond .eq 19, 3) := by decide +kernel
theorem d_Seater_seatWithFewestChanges_31 : decode b_Seater_seatWithFewestChanges 31 = .ok (.aload_n 2, 1) := by decide +kernel
theorem d_Seater_seatWithFewestChanges_32 : decode b_Seater_seatWithFewestChanges 32 = .ok (.iload 4, 2) := by decide +kernel
theorem d_Seater_seatWithFewestChanges_34 : decode b_Seater_seatWithFewestChanges 34 = .ok (.aload_n 1, 1) := by decide +kernel
theorem d_Seater_seatWithFewestChanges_35 : decode b_Seater_seatWithFewestChanges 35 = .ok (.iload_n 3, 1) := by decide +kernel
theorem d_Seater_seatWithFewestChanges_36 : decode b_Seater_seatWithFewestChanges 36 = .ok (.invokevirtual 48, 3) := by decide +kernel
theorem d_Seater_seatWithFewestChanges_39 : decode b_Seater_seatWithFewestChanges 39 = .ok (.iconst (-1), 1) := by decide +kernel
theorem d_Seater_seatWithFewestChanges_40 : decode b_Seater_seatWithFewestChanges 40 = .ok (.if_icmp .eq 7, 3) := by decide +kernel
theorem d_Seater_seatWithFewestChanges_43 : decode b_Seater_seatWithFewestChanges 43 = .ok (.iconst 1, 1) := by decide +kernel
theorem d_Seater_seatWithFewestChanges_44 : decode b_Seater_seatWithFewestChanges 44 = .ok (.goto 4, 3) := by decide +kernel
theorem d_Seater_seatWithFewestChanges_47 : decode b_Seater_seatWithFewestChanges 47 = .ok (.iconst 0, 1) := by decide +kernel
theorem d_Seater_seatWithFewestChanges_48 : decode b_Seater_seatWithFewestChanges 48 = .ok (.istore 5, 2) := by decide +kernel
theorem d_Seater_seatWithFewestChanges_50 : decode b_Seater_seatWithFewestChanges 50 = .ok (.aload_n 1, 1) := by decide +kernel
theorem d_Seater_seatWithFewestChanges_51 : decode b_Seater_seatWithFewestChanges 51 = .ok (.getfield 77, 3) := by decide +kernel
theorem d_Seater_seatWithFewestChanges_54 : decode b_Seater_seatWithFewestChanges 54 = .ok (.iload_n 3, 1) := by decide +kernel
theorem d_Seater_seatWithFewestChanges_55 : decode b_Seater_seatWithFewestChanges 55 = .ok (.iaload, 1) := by decide +kernel
theorem d_Seater_seatWithFewestChanges_56 : decode b_Seater_seatWithFewestChanges 56 = .ok (.iload 4, 2) := by decide +kernel
theorem d_Seater_seatWithFewestChanges_58 : decode b_Seater_seatWithFewestChanges 58 = .ok (.if_icmp .ne 7, 3) := by decide +kernel
theorem d_Seater_seatWithFewestChanges_61 : decode b_Seater_seatWithFewestChanges 61 = .ok (.lconst 0, 1) := by decide +kernel
theorem d_Seater_seatWithFewestChanges_62 : decode b_Seater_seatWithFewestChanges 62 = .ok (.goto 6, 3) := by decide +kernel
theorem d_Seater_seatWithFewestChanges_65 : decode b_Seater_seatWithFewestChanges 65 = .ok (.ldc2_w 54, 3) := by decide +kernel
theorem d_Seater_seatWithFewestChanges_68 : decode b_Seater_seatWithFewestChanges 68 = .ok (.lstore 6, 2) := by decide +kernel
theorem d_Seater_seatWithFewestChanges_70 : decode b_Seater_seatWithFewestChanges 70 = .ok (.aload_n 0, 1) := by decide +kernel
theorem d_Seater_seatWithFewestChanges_71 : decode b_Seater_seatWithFewestChanges 71 = .ok (.iload_n 3, 1) := by decide +kernel
theorem d_Seater_seatWithFewestChanges_72 : decode b_Seater_seatWithFewestChanges 72 = .ok (.iload 4, 2) := by decide +kernel
theorem d_Seater_seatWithFewestChanges_74 : decode b_Seater_seatWithFewestChanges 74 = .ok (.iload 5, 2) := by decide +kernel
theorem d_Seater_seatWithFewestChanges_76 : decode b_Seater_seatWithFewestChanges 76 = .ok (.ifCond .eq 18, 3) := by decide +kernel
theorem d_Seater_seatWithFewestChanges_79 : decode b_Seater_seatWithFewestChanges 79 = .ok (.lload 6, 2) := by decide +kernel
theorem d_Seater_seatWithFewestChanges_81 : decode b_Seater_seatWithFewestChanges 81 = .ok (.iload 4, 2) := by decide +kernel
theorem d_Seater_seatWithFewestChanges_83 : decode b_Seater_seatWithFewestChanges 83 = .ok (.i2l, 1) := by decide +kernel
theorem d_Seater_seatWithFewestChanges_84 : decode b_Seater_seatWithFewestChanges 84 = .ok (.getstatic 56, 3) := by decide +kernel
theorem d_Seater_seatWithFewestChanges_87 : decode b_Seater_seatWithFewestChanges 87 = .ok (.iload_n 3, 1) := by decide +kernel
theorem d_Seater_seatWithFewestChanges_88 : decode b_Seater_seatWithFewestChanges 88 = .ok (.laload, 1) := by decide +kernel
theorem d_Seater_seatWithFewestChanges_89 : decode b_Seater_seatWithFewestChanges 89 = .ok (.lmul, 1) := by decide +kernel
theorem d_Seater_seatWithFewestChanges_90 : decode b_Seater_seatWithFewestChanges 90 = .ok (.ladd, 1) := by decide +kernel
theorem d_Seater_seatWithFewestChanges_91 : decode b_Seater_seatWithFewestChanges 91 = .ok (.goto 6, 3) := by decide +kernel
theorem d_Seater_seatWithFewestChanges_94 : decode b_Seater_seatWithFewestChanges 94 = .ok (.ldc2_w 52, 3) := by decide +kernel
theorem d_Seater_seatWithFewestChanges_97 : decode b_Seater_seatWithFewestChanges 97 = .ok (.invokevirtual 59, 3) := by decide +kernel
theorem d_Seater_seatWithFewestChanges_100 : decode b_Seater_seatWithFewestChanges 100 = .ok (.iinc 4 1, 3) := by decide +kernel
theorem d_Seater_seatWithFewestChanges_103 : decode b_Seater_seatWithFewestChanges 103 = .ok (.goto (-90), 3) := by decide +kernel
theorem d_Seater_seatWithFewestChanges_106 : decode b_Seater_seatWithFewestChanges 106 = .ok (.aload_n 0, 1) := by decide +kernel
theorem d_Seater_seatWithFewestChanges_107 : decode b_Seater_seatWithFewestChanges 107 = .ok (.aload_n 1, 1) := by decide +kernel
theorem d_Seater_seatWithFewestChanges_108 : decode b_Seater_seatWithFewestChanges 108 = .ok (.aload_n 2, 1) := by decide +kernel
theorem d_Seater_seatWithFewestChanges_109 : decode b_Seater_seatWithFewestChanges 109 = .ok (.iload_n 3, 1) := by decide +kernel
theorem d_Seater_seatWithFewestChanges_110 : decode b_Seater_seatWithFewestChanges 110 = .ok (.aload_n 1, 1) := by decide +kernel
