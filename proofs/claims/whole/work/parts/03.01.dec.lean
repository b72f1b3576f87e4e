theorem d_Piece_hasPart_13 : decode b_Piece_hasPart 13 = .ok (.goto 4, 3) := by decide +kernel
theorem d_Piece_hasPart_16 : decode b_Piece_hasPart 16 = .ok (.iconst 0, 1) := by decide +kernel
theorem d_Piece_hasPart_17 : decode b_Piece_hasPart 17 = .ok (.ireturn, 1) := by decide +kernel
theorem d_Piece_isMust_0 : decode b_Piece_isMust 0 = .ok (.aload_n 0, 1) := by decide +kernel
theorem d_Piece_isMust_1 : decode b_Piece_isMust 1 = .ok (.getfield 25, 3) := by decide +kernel
theorem d_Piece_isMust_4 : decode b_Piece_isMust 4 = .ok (.iload_n 1, 1) := by decide +kernel
theorem d_Piece_isMust_5 : decode b_Piece_isMust 5 = .ok (.ishr, 1) := by decide +kernel
theorem d_Piece_isMust_6 : decode b_Piece_isMust 6 = .ok (.iconst 1, 1) := by decide +kernel
theorem d_Piece_isMust_7 : decode b_Piece_isMust 7 = .ok (.iand, 1) := by decide +kernel
theorem d_Piece_isMust_8 : decode b_Piece_isMust 8 = .ok (.ifCond .eq 7, 3) := by decide +kernel
theorem d_Piece_isMust_11 : decode b_Piece_isMust 11 = .ok (.iconst 1, 1) := by decide +kernel
theorem d_Piece_isMust_12 : decode b_Piece_isMust 12 = .ok (.goto 4, 3) := by decide +kernel
theorem d_Piece_isMust_15 : decode b_Piece_isMust 15 = .ok (.iconst 0, 1) := by decide +kernel
theorem d_Piece_isMust_16 : decode b_Piece_isMust 16 = .ok (.ireturn, 1) := by decide +kernel
theorem d_Piece_addPart_0 : decode b_Piece_addPart 0 = .ok (.aload_n 0, 1) := by decide +kernel
theorem d_Piece_addPart_1 : decode b_Piece_addPart 1 = .ok (.getfield 21, 3) := by decide +kernel
theorem d_Piece_addPart_4 : decode b_Piece_addPart 4 = .ok (.bipush 10, 2) := by decide +kernel
theorem d_Piece_addPart_6 : decode b_Piece_addPart 6 = .ok (.if_icmp .lt 4, 3) := by decide +kernel
theorem d_Piece_addPart_9 : decode b_Piece_addPart 9 = .ok (.return_, 1) := by decide +kernel
theorem d_Piece_addPart_10 : decode b_Piece_addPart 10 = .ok (.iload_n 1, 1) := by decide +kernel
theorem d_Piece_addPart_11 : decode b_Piece_addPart 11 = .ok (.ifCond .eq 18, 3) := by decide +kernel
theorem d_Piece_addPart_14 : decode b_Piece_addPart 14 = .ok (.aload_n 0, 1) := by decide +kernel
theorem d_Piece_addPart_15 : decode b_Piece_addPart 15 = .ok (.dup, 1) := by decide +kernel
theorem d_Piece_addPart_16 : decode b_Piece_addPart 16 = .ok (.getfield 25, 3) := by decide +kernel
theorem d_Piece_addPart_19 : decode b_Piece_addPart 19 = .ok (.iconst 1, 1) := by decide +kernel
theorem d_Piece_addPart_20 : decode b_Piece_addPart 20 = .ok (.aload_n 0, 1) := by decide +kernel
theorem d_Piece_addPart_21 : decode b_Piece_addPart 21 = .ok (.getfield 21, 3) := by decide +kernel
theorem d_Piece_addPart_24 : decode b_Piece_addPart 24 = .ok (.ishl, 1) := by decide +kernel
theorem d_Piece_addPart_25 : decode b_Piece_addPart 25 = .ok (.ior, 1) := by decide +kernel
theorem d_Piece_addPart_26 : decode b_Piece_addPart 26 = .ok (.putfield 25, 3) := by decide +kernel
theorem d_Piece_addPart_29 : decode b_Piece_addPart 29 = .ok (.aload_n 0, 1) := by decide +kernel
theorem d_Piece_addPart_30 : decode b_Piece_addPart 30 = .ok (.dup, 1) := by decide +kernel
theorem d_Piece_addPart_31 : decode b_Piece_addPart 31 = .ok (.getfield 21, 3) := by decide +kernel
theorem d_Piece_addPart_34 : decode b_Piece_addPart 34 = .ok (.iconst 1, 1) := by decide +kernel
theorem d_Piece_addPart_35 : decode b_Piece_addPart 35 = .ok (.iadd, 1) := by decide +kernel
theorem d_Piece_addPart_36 : decode b_Piece_addPart 36 = .ok (.putfield 21, 3) := by decide +kernel
theorem d_Piece_addPart_39 : decode b_Piece_addPart 39 = .ok (.return_, 1) := by decide +kernel
theorem d_Piece_instrument_0 : decode b_Piece_instrument 0 = .ok (.aload_n 0, 1) := by decide +kernel
theorem d_Piece_instrument_1 : decode b_Piece_instrument 1 = .ok (.getfield 15, 3) := by decide +kernel
theorem d_Piece_instrument_4 : decode b_Piece_instrument 4 = .ok (.iload_n 1, 1) := by decide +kernel
theorem d_Piece_instrument_5 : decode b_Piece_instrument 5 = .ok (.iconst 4, 1) := by decide +kernel
theorem d_Piece_instrument_6 : decode b_Piece_instrument 6 = .ok (.imul, 1) := by decide +kernel
theorem d_Piece_instrument_7 : decode b_Piece_instrument 7 = .ok (.iload_n 2, 1) := by decide +kernel
theorem d_Piece_instrument_8 : decode b_Piece_instrument 8 = .ok (.iadd, 1) := by decide +kernel
theorem d_Piece_instrument_9 : decode b_Piece_instrument 9 = .ok (.iaload, 1) := by decide +kernel
theorem d_Piece_instrument_10 : decode b_Piece_instrument 10 = .ok (.ireturn, 1) := by decide +kernel
theorem d_Piece_hasInstrument_0 : decode b_Piece_hasInstrument 0 = .ok (.iconst 0, 1) := by decide +kernel
theorem d_Piece_hasInstrument_1 : decode b_Piece_hasInstrument 1 = .ok (.istore_n 3, 1) := by decide +kernel
theorem d_Piece_hasInstrument_2 : decode b_Piece_hasInstrument 2 = .ok (.iload_n 3, 1) := by decide +kernel
theorem d_Piece_hasInstrument_3 : decode b_Piece_hasInstrument 3 = .ok (.aload_n 0, 1) := by decide +kernel
theorem d_Piece_hasInstrument_4 : decode b_Piece_hasInstrument 4 = .ok (.getfield 9, 3) := by decide +kernel
theorem d_Piece_hasInstrument_7 : decode b_Piece_hasInstrument 7 = .ok (.iload_n 1, 1) := by decide +kernel
theorem d_Piece_hasInstrument_8 : decode b_Piece_hasInstrument 8 = .ok (.iaload, 1) := by decide +kernel
theorem d_Piece_hasInstrument_9 : decode b_Piece_hasInstrument 9 = .ok (.if_icmp .ge 21, 3) := by decide +kernel
theorem d_Piece_hasInstrument_12 : decode b_Piece_hasInstrument 12 = .ok (.aload_n 0, 1) := by decide +kernel
theorem d_Piece_hasInstrument_13 : decode b_Piece_hasInstrument 13 = .ok (.iload_n 1, 1) := by decide +kernel
theorem d_Piece_hasInstrument_14 : decode b_Piece_hasInstrument 14 = .ok (.iload_n 3, 1) := by decide +kernel
theorem d_Piece_hasInstrument_15 : decode b_Piece_hasInstrument 15 = .ok (.invokevirtual 34, 3) := by decide +kernel
theorem d_Piece_hasInstrument_18 : decode b_Piece_hasInstrument 18 = .ok (.iload_n 2, 1) := by decide +kernel
theorem d_Piece_hasInstrument_19 : decode b_Piece_hasInstrument 19 = .ok (.if_icmp .ne 5, 3) := by decide +kernel
theorem d_Piece_hasInstrument_22 : decode b_Piece_hasInstrument 22 = .ok (.iconst 1, 1) := by decide +kernel
theorem d_Piece_hasInstrument_23 : decode b_Piece_hasInstrument 23 = .ok (.ireturn, 1) := by decide +kernel
theorem d_Piece_hasInstrument_24 : decode b_Piece_hasInstrument 24 = .ok (.iinc 3 1, 3) := by decide +kernel
theorem d_Piece_hasInstrument_27 : decode b_Piece_hasInstrument 27 = .ok (.goto (-25), 3) := by decide +kernel
theorem d_Piece_hasInstrument_30 : decode b_Piece_hasInstrument 30 = .ok (.iconst 0, 1) := by decide +kernel
theorem d_Piece_hasInstrument_31 : decode b_Piece_hasInstrument 31 = .ok (.ireturn, 1) := by decide +kernel
theorem d_Piece_addInstrument_0 : decode b_Piece_addInstrument 0 = .ok (.aload_n 0, 1) := by decide +kernel
theorem d_Piece_addInstrument_1 : decode b_Piece_addInstrument 1 = .ok (.getfield 9, 3) := by decide +kernel
theorem d_Piece_addInstrument_4 : decode b_Piece_addInstrument 4 = .ok (.iload_n 1, 1) := by decide +kernel
theorem d_Piece_addInstrument_5 : decode b_Piece_addInstrument 5 = .ok (.iaload, 1) := by decide +kernel
theorem d_Piece_addInstrument_6 : decode b_Piece_addInstrument 6 = .ok (.iconst 4, 1) := by decide +kernel
theorem d_Piece_addInstrument_7 : decode b_Piece_addInstrument 7 = .ok (.if_icmp .lt 4, 3) := by decide +kernel
theorem d_Piece_addInstrument_10 : decode b_Piece_addInstrument 10 = .ok (.return_, 1) := by decide +kernel
theorem d_Piece_addInstrument_11 : decode b_Piece_addInstrument 11 = .ok (.aload_n 0, 1) := by decide +kernel
theorem d_Piece_addInstrument_12 : decode b_Piece_addInstrument 12 = .ok (.getfield 15, 3) := by decide +kernel
theorem d_Piece_addInstrument_15 : decode b_Piece_addInstrument 15 = .ok (.iload_n 1, 1) := by decide +kernel
theorem d_Piece_addInstrument_16 : decode b_Piece_addInstrument 16 = .ok (.iconst 4, 1) := by decide +kernel
theorem d_Piece_addInstrument_17 : decode b_Piece_addInstrument 17 = .ok (.imul, 1) := by decide +kernel
theorem d_Piece_addInstrument_18 : decode b_Piece_addInstrument 18 = .ok (.aload_n 0, 1) := by decide +kernel
theorem d_Piece_addInstrument_19 : decode b_Piece_addInstrument 19 = .ok (.getfield 9, 3) := by decide +kernel
theorem d_Piece_addInstrument_22 : decode b_Piece_addInstrument 22 = .ok (.iload_n 1, 1) := by decide +kernel
theorem d_Piece_addInstrument_23 : decode b_Piece_addInstrument 23 = .ok (.iaload, 1) := by decide +kernel
theorem d_Piece_addInstrument_24 : decode b_Piece_addInstrument 24 = .ok (.iadd, 1) := by decide +kernel
theorem d_Piece_addInstrument_25 : decode b_Piece_addInstrument 25 = .ok (.iload_n 2, 1) := by decide +kernel
theorem d_Piece_addInstrument_26 : decode b_Piece_addInstrument 26 = .ok (.iastore, 1) := by decide +kernel
theorem d_Piece_addInstrument_27 : decode b_Piece_addInstrument 27 = .ok (.aload_n 0, 1) := by decide +kernel
theorem d_Piece_addInstrument_28 : decode b_Piece_addInstrument 28 = .ok (.getfield 9, 3) := by decide +kernel
theorem d_Piece_addInstrument_31 : decode b_Piece_addInstrument 31 = .ok (.iload_n 1, 1) := by decide +kernel
theorem d_Piece_addInstrument_32 : decode b_Piece_addInstrument 32 = .ok (.dup2, 1) := by decide +kernel
theorem d_Piece_addInstrument_33 : decode b_Piece_addInstrument 33 = .ok (.iaload, 1) := by decide +kernel
theorem d_Piece_addInstrument_34 : decode b_Piece_addInstrument 34 = .ok (.iconst 1, 1) := by decide +kernel
theorem d_Piece_addInstrument_35 : decode b_Piece_addInstrument 35 = .ok (.iadd, 1) := by decide +kernel
theorem d_Piece_addInstrument_36 : decode b_Piece_addInstrument 36 = .ok (.iastore, 1) := by decide +kernel
theorem d_Piece_addInstrument_37 : decode b_Piece_addInstrument 37 = .ok (.return_, 1) := by decide +kernel
theorem d_Piece_detail_0 : decode b_Piece_detail 0 = .ok (.iload_n 1, 1) := by decide +kernel
theorem d_Piece_detail_1 : decode b_Piece_detail 1 = .ok (.tableswitch 60 0 4 #[35, 40, 45, 50, 55], 35) := by decide +kernel
theorem d_Piece_detail_36 : decode b_Piece_detail 36 = .ok (.aload_n 0, 1) := by decide +kernel
theorem d_Piece_detail_37 : decode b_Piece_detail 37 = .ok (.getfield 38, 3) := by decide +kernel
theorem d_Piece_detail_40 : decode b_Piece_detail 40 = .ok (.ireturn, 1) := by decide +kernel
theorem d_Piece_detail_41 : decode b_Piece_detail 41 = .ok (.aload_n 0, 1) := by decide +kernel
theorem d_Piece_detail_42 : decode b_Piece_detail 42 = .ok (.getfield 41, 3) := by decide +kernel
theorem d_Piece_detail_45 : decode b_Piece_detail 45 = .ok (.ireturn, 1) := by decide +kernel
theorem d_Piece_detail_46 : decode b_Piece_detail 46 = .ok (.aload_n 0, 1) := by decide +kernel
theorem d_Piece_detail_47 : decode b_Piece_detail 47 = .ok (.getfield 44, 3) := by decide +kernel
theorem d_Piece_detail_50 : decode b_Piece_detail 50 = .ok (.ireturn, 1) := by decide +kernel
theorem d_Piece_detail_51 : decode b_Piece_detail 51 = .ok (.aload_n 0, 1) := by decide +kernel
theorem d_Piece_detail_52 : decode b_Piece_detail 52 = .ok (.getfield 21, 3) := by decide +kernel
theorem d_Piece_detail_55 : decode b_Piece_detail 55 = .ok (.ireturn, 1) := by decide +kernel
theorem d_Piece_detail_56 : decode b_Piece_detail 56 = .ok (.aload_n 0, 1) := by decide +kernel
theorem d_Piece_detail_57 : decode b_Piece_detail 57 = .ok (.getfield 25, 3) := by decide +kernel
theorem d_Piece_detail_60 : decode b_Piece_detail 60 = .ok (.ireturn, 1) := by decide +kernel
theorem d_Piece_detail_61 : decode b_Piece_detail 61 = .ok (.aload_n 0, 1) := by decide +kernel
theorem d_Piece_detail_62 : decode b_Piece_detail 62 = .ok (.iload_n 1, 1) := by decide +kernel
theorem d_Piece_detail_63 : decode b_Piece_detail 63 = .ok (.invokevirtual 47, 3) := by decide +kernel
theorem d_Piece_detail_66 : decode b_Piece_detail 66 = .ok (.ireturn, 1) := by decide +kernel
theorem d_Piece_partDetail_0 : decode b_Piece_partDetail 0 = .ok (.iload_n 1, 1) := by decide +kernel
theorem d_Piece_partDetail_1 : decode b_Piece_partDetail 1 = .ok (.bipush 10, 2) := by decide +kernel
theorem d_Piece_partDetail_3 : decode b_Piece_partDetail 3 = .ok (.if_icmp .lt 24, 3) := by decide +kernel
theorem d_Piece_partDetail_6 : decode b_Piece_partDetail 6 = .ok (.aload_n 0, 1) := by decide +kernel
theorem d_Piece_partDetail_7 : decode b_Piece_partDetail 7 = .ok (.iload_n 1, 1) := by decide +kernel
theorem d_Piece_partDetail_8 : decode b_Piece_partDetail 8 = .ok (.bipush 10, 2) := by decide +kernel
theorem d_Piece_partDetail_10 : decode b_Piece_partDetail 10 = .ok (.isub, 1) := by decide +kernel
theorem d_Piece_partDetail_11 : decode b_Piece_partDetail 11 = .ok (.invokevirtual 51, 3) := by decide +kernel
theorem d_Piece_partDetail_14 : decode b_Piece_partDetail 14 = .ok (.ifCond .eq 13, 3) := by decide +kernel
theorem d_Piece_partDetail_17 : decode b_Piece_partDetail 17 = .ok (.aload_n 0, 1) := by decide +kernel
theorem d_Piece_partDetail_18 : decode b_Piece_partDetail 18 = .ok (.getfield 9, 3) := by decide +kernel
theorem d_Piece_partDetail_21 : decode b_Piece_partDetail 21 = .ok (.iload_n 1, 1) := by decide +kernel
theorem d_Piece_partDetail_22 : decode b_Piece_partDetail 22 = .ok (.bipush 10, 2) := by decide +kernel
theorem d_Piece_partDetail_24 : decode b_Piece_partDetail 24 = .ok (.isub, 1) := by decide +kernel
theorem d_Piece_partDetail_25 : decode b_Piece_partDetail 25 = .ok (.iaload, 1) := by decide +kernel
theorem d_Piece_partDetail_26 : decode b_Piece_partDetail 26 = .ok (.ireturn, 1) := by decide +kernel
theorem d_Piece_partDetail_27 : decode b_Piece_partDetail 27 = .ok (.iload_n 1, 1) := by decide +kernel
theorem d_Piece_partDetail_28 : decode b_Piece_partDetail 28 = .ok (.bipush 100, 2) := by decide +kernel
theorem d_Piece_partDetail_30 : decode b_Piece_partDetail 30 = .ok (.if_icmp .lt 17, 3) := by decide +kernel
theorem d_Piece_partDetail_33 : decode b_Piece_partDetail 33 = .ok (.aload_n 0, 1) := by decide +kernel
theorem d_Piece_partDetail_34 : decode b_Piece_partDetail 34 = .ok (.iload_n 1, 1) := by decide +kernel
theorem d_Piece_partDetail_35 : decode b_Piece_partDetail 35 = .ok (.bipush 100, 2) := by decide +kernel
theorem d_Piece_partDetail_37 : decode b_Piece_partDetail 37 = .ok (.isub, 1) := by decide +kernel
theorem d_Piece_partDetail_38 : decode b_Piece_partDetail 38 = .ok (.bipush 10, 2) := by decide +kernel
theorem d_Piece_partDetail_40 : decode b_Piece_partDetail 40 = .ok (.idiv, 1) := by decide +kernel
theorem d_Piece_partDetail_41 : decode b_Piece_partDetail 41 = .ok (.invokevirtual 51, 3) := by decide +kernel
theorem d_Piece_partDetail_44 : decode b_Piece_partDetail 44 = .ok (.ifCond .ne 5, 3) := by decide +kernel
theorem d_Piece_partDetail_47 : decode b_Piece_partDetail 47 = .ok (.iconst (-1), 1) := by decide +kernel
theorem d_Piece_partDetail_48 : decode b_Piece_partDetail 48 = .ok (.ireturn, 1) := by decide +kernel
theorem d_Piece_partDetail_49 : decode b_Piece_partDetail 49 = .ok (.iload_n 1, 1) := by decide +kernel
theorem d_Piece_partDetail_50 : decode b_Piece_partDetail 50 = .ok (.bipush 100, 2) := by decide +kernel
theorem d_Piece_partDetail_52 : decode b_Piece_partDetail 52 = .ok (.isub, 1) := by decide +kernel
theorem d_Piece_partDetail_53 : decode b_Piece_partDetail 53 = .ok (.bipush 10, 2) := by decide +kernel
theorem d_Piece_partDetail_55 : decode b_Piece_partDetail 55 = .ok (.idiv, 1) := by decide +kernel
theorem d_Piece_partDetail_56 : decode b_Piece_partDetail 56 = .ok (.istore_n 2, 1) := by decide +kernel
theorem d_Piece_partDetail_57 : decode b_Piece_partDetail 57 = .ok (.iload_n 1, 1) := by decide +kernel
theorem d_Piece_partDetail_58 : decode b_Piece_partDetail 58 = .ok (.bipush 100, 2) := by decide +kernel
theorem d_Piece_partDetail_60 : decode b_Piece_partDetail 60 = .ok (.isub, 1) := by decide +kernel
theorem d_Piece_partDetail_61 : decode b_Piece_partDetail 61 = .ok (.bipush 10, 2) := by decide +kernel
theorem d_Piece_partDetail_63 : decode b_Piece_partDetail 63 = .ok (.irem, 1) := by decide +kernel
theorem d_Piece_partDetail_64 : decode b_Piece_partDetail 64 = .ok (.istore_n 3, 1) := by decide +kernel
theorem d_Piece_partDetail_65 : decode b_Piece_partDetail 65 = .ok (.iload_n 3, 1) := by decide +kernel
theorem d_Piece_partDetail_66 : decode b_Piece_partDetail 66 = .ok (.aload_n 0, 1) := by decide +kernel
theorem d_Piece_partDetail_67 : decode b_Piece_partDetail 67 = .ok (.getfield 9, 3) := by decide +kernel
theorem d_Piece_partDetail_70 : decode b_Piece_partDetail 70 = .ok (.iload_n 2, 1) := by decide +kernel
theorem d_Piece_partDetail_71 : decode b_Piece_partDetail 71 = .ok (.iaload, 1) := by decide +kernel
theorem d_Piece_partDetail_72 : decode b_Piece_partDetail 72 = .ok (.if_icmp .ge 12, 3) := by decide +kernel
theorem d_Piece_partDetail_75 : decode b_Piece_partDetail 75 = .ok (.aload_n 0, 1) := by decide +kernel
theorem d_Piece_partDetail_76 : decode b_Piece_partDetail 76 = .ok (.iload_n 2, 1) := by decide +kernel
theorem d_Piece_partDetail_77 : decode b_Piece_partDetail 77 = .ok (.iload_n 3, 1) := by decide +kernel
theorem d_Piece_partDetail_78 : decode b_Piece_partDetail 78 = .ok (.invokevirtual 34, 3) := by decide +kernel
theorem d_Piece_partDetail_81 : decode b_Piece_partDetail 81 = .ok (.goto 4, 3) := by decide +kernel
theorem d_Piece_partDetail_84 : decode b_Piece_partDetail 84 = .ok (.iconst (-1), 1) := by decide +kernel
theorem d_Piece_partDetail_85 : decode b_Piece_partDetail 85 = .ok (.ireturn, 1) := by decide +kernel
theorem d_Piece_seated_0 : decode b_Piece_seated 0 = .ok (.iconst 0, 1) := by decide +kernel
theorem d_Piece_seated_1 : decode b_Piece_seated 1 = .ok (.istore_n 1, 1) := by decide +kernel
theorem d_Piece_seated_2 : decode b_Piece_seated 2 = .ok (.iconst 0, 1) := by decide +kernel
theorem d_Piece_seated_3 : decode b_Piece_seated 3 = .ok (.istore_n 2, 1) := by decide +kernel
theorem d_Piece_seated_4 : decode b_Piece_seated 4 = .ok (.iload_n 2, 1) := by decide +kernel
theorem d_Piece_seated_5 : decode b_Piece_seated 5 = .ok (.aload_n 0, 1) := by decide +kernel
theorem d_Piece_seated_6 : decode b_Piece_seated 6 = .ok (.getfield 21, 3) := by decide +kernel
theorem d_Piece_seated_9 : decode b_Piece_seated 9 = .ok (.if_icmp .ge 22, 3) := by decide +kernel
theorem d_Piece_seated_12 : decode b_Piece_seated 12 = .ok (.aload_n 0, 1) := by decide +kernel
theorem d_Piece_seated_13 : decode b_Piece_seated 13 = .ok (.getfield 18, 3) := by decide +kernel
theorem d_Piece_seated_16 : decode b_Piece_seated 16 = .ok (.iload_n 2, 1) := by decide +kernel
theorem d_Piece_seated_17 : decode b_Piece_seated 17 = .ok (.iaload, 1) := by decide +kernel
theorem d_Piece_seated_18 : decode b_Piece_seated 18 = .ok (.iconst (-1), 1) := by decide +kernel
theorem d_Piece_seated_19 : decode b_Piece_seated 19 = .ok (.if_icmp .eq 6, 3) := by decide +kernel
theorem d_Piece_seated_22 : decode b_Piece_seated 22 = .ok (.iinc 1 1, 3) := by decide +kernel
theorem d_Piece_seated_25 : decode b_Piece_seated 25 = .ok (.iinc 2 1, 3) := by decide +kernel
theorem d_Piece_seated_28 : decode b_Piece_seated 28 = .ok (.goto (-24), 3) := by decide +kernel
theorem d_Piece_seated_31 : decode b_Piece_seated 31 = .ok (.iload_n 1, 1) := by decide +kernel
theorem d_Piece_seated_32 : decode b_Piece_seated 32 = .ok (.ireturn, 1) := by decide +kernel
theorem d_Piece_seatsElsewhere_0 : decode b_Piece_seatsElsewhere 0 = .ok (.iconst 0, 1) := by decide +kernel
theorem d_Piece_seatsElsewhere_1 : decode b_Piece_seatsElsewhere 1 = .ok (.istore_n 3, 1) := by decide +kernel
theorem d_Piece_seatsElsewhere_2 : decode b_Piece_seatsElsewhere 2 = .ok (.iload_n 3, 1) := by decide +kernel
theorem d_Piece_seatsElsewhere_3 : decode b_Piece_seatsElsewhere 3 = .ok (.aload_n 0, 1) := by decide +kernel
theorem d_Piece_seatsElsewhere_4 : decode b_Piece_seatsElsewhere 4 = .ok (.getfield 21, 3) := by decide +kernel
theorem d_Piece_seatsElsewhere_7 : decode b_Piece_seatsElsewhere 7 = .ok (.if_icmp .ge 26, 3) := by decide +kernel
theorem d_Piece_seatsElsewhere_10 : decode b_Piece_seatsElsewhere 10 = .ok (.iload_n 3, 1) := by decide +kernel
theorem d_Piece_seatsElsewhere_11 : decode b_Piece_seatsElsewhere 11 = .ok (.iload_n 2, 1) := by decide +kernel
theorem d_Piece_seatsElsewhere_12 : decode b_Piece_seatsElsewhere 12 = .ok (.if_icmp .eq 15, 3) := by decide +kernel
theorem d_Piece_seatsElsewhere_15 : decode b_Piece_seatsElsewhere 15 = .ok (.aload_n 0, 1) := by decide +kernel
theorem d_Piece_seatsElsewhere_16 : decode b_Piece_seatsElsewhere 16 = .ok (.getfield 18, 3) := by decide +kernel
theorem d_Piece_seatsElsewhere_19 : decode b_Piece_seatsElsewhere 19 = .ok (.iload_n 3, 1) := by decide +kernel
theorem d_Piece_seatsElsewhere_20 : decode b_Piece_seatsElsewhere 20 = .ok (.iaload, 1) := by decide +kernel
theorem d_Piece_seatsElsewhere_21 : decode b_Piece_seatsElsewhere 21 = .ok (.iload_n 1, 1) := by decide +kernel
theorem d_Piece_seatsElsewhere_22 : decode b_Piece_seatsElsewhere 22 = .ok (.if_icmp .ne 5, 3) := by decide +kernel
theorem d_Piece_seatsElsewhere_25 : decode b_Piece_seatsElsewhere 25 = .ok (.iconst 1, 1) := by decide +kernel
theorem d_Piece_seatsElsewhere_26 : decode b_Piece_seatsElsewhere 26 = .ok (.ireturn, 1) := by decide +kernel
theorem d_Piece_seatsElsewhere_27 : decode b_Piece_seatsElsewhere 27 = .ok (.iinc 3 1, 3) := by decide +kernel
theorem d_Piece_seatsElsewhere_30 : decode b_Piece_seatsElsewhere 30 = .ok (.goto (-28), 3) := by decide +kernel
theorem d_Piece_seatsElsewhere_33 : decode b_Piece_seatsElsewhere 33 = .ok (.iconst 0, 1) := by decide +kernel
theorem d_Piece_seatsElsewhere_34 : decode b_Piece_seatsElsewhere 34 = .ok (.ireturn, 1) := by decide +kernel
theorem d_Planner_init_0 : decode b_Planner_init 0 = .ok (.aload_n 0, 1) := by decide +kernel
theorem d_Planner_init_1 : decode b_Planner_init 1 = .ok (.invokespecial 5, 3) := by decide +kernel
theorem d_Planner_init_4 : decode b_Planner_init 4 = .ok (.aload_n 0, 1) := by decide +kernel
theorem d_Planner_init_5 : decode b_Planner_init 5 = .ok (.bipush 10, 2) := by decide +kernel
theorem d_Planner_init_7 : decode b_Planner_init 7 = .ok (.newarray .int, 2) := by decide +kernel
theorem d_Planner_init_9 : decode b_Planner_init 9 = .ok (.putfield 11, 3) := by decide +kernel
theorem d_Planner_init_12 : decode b_Planner_init 12 = .ok (.aload_n 0, 1) := by decide +kernel
theorem d_Planner_init_13 : decode b_Planner_init 13 = .ok (.bipush 10, 2) := by decide +kernel
theorem d_Planner_init_15 : decode b_Planner_init 15 = .ok (.newarray .int, 2) := by decide +kernel
theorem d_Planner_init_17 : decode b_Planner_init 17 = .ok (.putfield 17, 3) := by decide +kernel
theorem d_Planner_init_20 : decode b_Planner_init 20 = .ok (.aload_n 0, 1) := by decide +kernel
theorem d_Planner_init_21 : decode b_Planner_init 21 = .ok (.bipush 10, 2) := by decide +kernel
theorem d_Planner_init_23 : decode b_Planner_init 23 = .ok (.newarray .int, 2) := by decide +kernel
theorem d_Planner_init_25 : decode b_Planner_init 25 = .ok (.putfield 20, 3) := by decide +kernel
theorem d_Planner_init_28 : decode b_Planner_init 28 = .ok (.aload_n 0, 1) := by decide +kernel
theorem d_Planner_init_29 : decode b_Planner_init 29 = .ok (.bipush 10, 2) := by decide +kernel
theorem d_Planner_init_31 : decode b_Planner_init 31 = .ok (.newarray .int, 2) := by decide +kernel
theorem d_Planner_init_33 : decode b_Planner_init 33 = .ok (.putfield 23, 3) := by decide +kernel
theorem d_Planner_init_36 : decode b_Planner_init 36 = .ok (.aload_n 0, 1) := by decide +kernel
theorem d_Planner_init_37 : decode b_Planner_init 37 = .ok (.bipush 10, 2) := by decide +kernel
theorem d_Planner_init_39 : decode b_Planner_init 39 = .ok (.newarray .int, 2) := by decide +kernel
theorem d_Planner_init_41 : decode b_Planner_init 41 = .ok (.putfield 26, 3) := by decide +kernel
theorem d_Planner_init_44 : decode b_Planner_init 44 = .ok (.aload_n 0, 1) := by decide +kernel
theorem d_Planner_init_45 : decode b_Planner_init 45 = .ok (.iconst 0, 1) := by decide +kernel
theorem d_Planner_init_46 : decode b_Planner_init 46 = .ok (.newarray .long, 2) := by decide +kernel
theorem d_Planner_init_48 : decode b_Planner_init 48 = .ok (.putfield 29, 3) := by decide +kernel
theorem d_Planner_init_51 : decode b_Planner_init 51 = .ok (.return_, 1) := by decide +kernel
theorem d_Planner_forgetChoices_0 : decode b_Planner_forgetChoices 0 = .ok (.aload_n 0, 1) := by decide +kernel
theorem d_Planner_forgetChoices_1 : decode b_Planner_forgetChoices 1 = .ok (.iconst 0, 1) := by decide +kernel
theorem d_Planner_forgetChoices_2 : decode b_Planner_forgetChoices 2 = .ok (.putfield 33, 3) := by decide +kernel
theorem d_Planner_forgetChoices_5 : decode b_Planner_forgetChoices 5 = .ok (.return_, 1) := by decide +kernel
theorem d_Planner_offer_0 : decode b_Planner_offer 0 = .ok (.aload_n 0, 1) := by decide +kernel
theorem d_Planner_offer_1 : decode b_Planner_offer 1 = .ok (.getfield 33, 3) := by decide +kernel
theorem d_Planner_offer_4 : decode b_Planner_offer 4 = .ok (.bipush 10, 2) := by decide +kernel
theorem d_Planner_offer_6 : decode b_Planner_offer 6 = .ok (.if_icmp .lt 4, 3) := by decide +kernel
theorem d_Planner_offer_9 : decode b_Planner_offer 9 = .ok (.return_, 1) := by decide +kernel
theorem d_Planner_offer_10 : decode b_Planner_offer 10 = .ok (.aload_n 0, 1) := by decide +kernel
theorem d_Planner_offer_11 : decode b_Planner_offer 11 = .ok (.getfield 17, 3) := by decide +kernel
theorem d_Planner_offer_14 : decode b_Planner_offer 14 = .ok (.aload_n 0, 1) := by decide +kernel
theorem d_Planner_offer_15 : decode b_Planner_offer 15 = .ok (.getfield 33, 3) := by decide +kernel
theorem d_Planner_offer_18 : decode b_Planner_offer 18 = .ok (.iload_n 1, 1) := by decide +kernel
theorem d_Planner_offer_19 : decode b_Planner_offer 19 = .ok (.iastore, 1) := by decide +kernel
theorem d_Planner_offer_20 : decode b_Planner_offer 20 = .ok (.aload_n 0, 1) := by decide +kernel
theorem d_Planner_offer_21 : decode b_Planner_offer 21 = .ok (.getfield 20, 3) := by decide +kernel
theorem d_Planner_offer_24 : decode b_Planner_offer 24 = .ok (.aload_n 0, 1) := by decide +kernel
theorem d_Planner_offer_25 : decode b_Planner_offer 25 = .ok (.getfield 33, 3) := by decide +kernel
theorem d_Planner_offer_28 : decode b_Planner_offer 28 = .ok (.aload_n 2, 1) := by decide +kernel
theorem d_Planner_offer_29 : decode b_Planner_offer 29 = .ok (.getfield 37, 3) := by decide +kernel
theorem d_Planner_offer_32 : decode b_Planner_offer 32 = .ok (.iastore, 1) := by decide +kernel
theorem d_Planner_offer_33 : decode b_Planner_offer 33 = .ok (.aload_n 0, 1) := by decide +kernel
theorem d_Planner_offer_34 : decode b_Planner_offer 34 = .ok (.getfield 23, 3) := by decide +kernel
theorem d_Planner_offer_37 : decode b_Planner_offer 37 = .ok (.aload_n 0, 1) := by decide +kernel
theorem d_Planner_offer_38 : decode b_Planner_offer 38 = .ok (.getfield 33, 3) := by decide +kernel
theorem d_Planner_offer_41 : decode b_Planner_offer 41 = .ok (.aload_n 2, 1) := by decide +kernel
theorem d_Planner_offer_42 : decode b_Planner_offer 42 = .ok (.getfield 41, 3) := by decide +kernel
theorem d_Planner_offer_45 : decode b_Planner_offer 45 = .ok (.iastore, 1) := by decide +kernel
theorem d_Planner_offer_46 : decode b_Planner_offer 46 = .ok (.aload_n 0, 1) := by decide +kernel
theorem d_Planner_offer_47 : decode b_Planner_offer 47 = .ok (.getfield 26, 3) := by decide +kernel
theorem d_Planner_offer_50 : decode b_Planner_offer 50 = .ok (.aload_n 0, 1) := by decide +kernel
theorem d_Planner_offer_51 : decode b_Planner_offer 51 = .ok (.getfield 33, 3) := by decide +kernel
theorem d_Planner_offer_54 : decode b_Planner_offer 54 = .ok (.aload_n 2, 1) := by decide +kernel
theorem d_Planner_offer_55 : decode b_Planner_offer 55 = .ok (.getfield 43, 3) := by decide +kernel
theorem d_Planner_offer_58 : decode b_Planner_offer 58 = .ok (.iastore, 1) := by decide +kernel
theorem d_Planner_offer_59 : decode b_Planner_offer 59 = .ok (.aload_n 0, 1) := by decide +kernel
theorem d_Planner_offer_60 : decode b_Planner_offer 60 = .ok (.dup, 1) := by decide +kernel
theorem d_Planner_offer_61 : decode b_Planner_offer 61 = .ok (.getfield 33, 3) := by decide +kernel
theorem d_Planner_offer_64 : decode b_Planner_offer 64 = .ok (.iconst 1, 1) := by decide +kernel
theorem d_Planner_offer_65 : decode b_Planner_offer 65 = .ok (.iadd, 1) := by decide +kernel
theorem d_Planner_offer_66 : decode b_Planner_offer 66 = .ok (.putfield 33, 3) := by decide +kernel
theorem d_Planner_offer_69 : decode b_Planner_offer 69 = .ok (.return_, 1) := by decide +kernel
theorem d_Planner_arrange_0 : decode b_Planner_arrange 0 = .ok (.iconst 1, 1) := by decide +kernel
theorem d_Planner_arrange_1 : decode b_Planner_arrange 1 = .ok (.aload_n 0, 1) := by decide +kernel
theorem d_Planner_arrange_2 : decode b_Planner_arrange 2 = .ok (.getfield 33, 3) := by decide +kernel
theorem d_Planner_arrange_5 : decode b_Planner_arrange 5 = .ok (.ishl, 1) := by decide +kernel
theorem d_Planner_arrange_6 : decode b_Planner_arrange 6 = .ok (.istore_n 3, 1) := by decide +kernel
theorem d_Planner_arrange_7 : decode b_Planner_arrange 7 = .ok (.aload_n 0, 1) := by decide +kernel
theorem d_Planner_arrange_8 : decode b_Planner_arrange 8 = .ok (.getfield 29, 3) := by decide +kernel
theorem d_Planner_arrange_11 : decode b_Planner_arrange 11 = .ok (.arraylength, 1) := by decide +kernel
theorem d_Planner_arrange_12 : decode b_Planner_arrange 12 = .ok (.iload_n 3, 1) := by decide +kernel
theorem d_Planner_arrange_13 : decode b_Planner_arrange 13 = .ok (.aload_n 0, 1) := by decide +kernel
theorem d_Planner_arrange_14 : decode b_Planner_arrange 14 = .ok (.getfield 33, 3) := by decide +kernel
theorem d_Planner_arrange_17 : decode b_Planner_arrange 17 = .ok (.imul, 1) := by decide +kernel
theorem d_Planner_arrange_18 : decode b_Planner_arrange 18 = .ok (.if_icmp .ge 15, 3) := by decide +kernel
theorem d_Planner_arrange_21 : decode b_Planner_arrange 21 = .ok (.aload_n 0, 1) := by decide +kernel
theorem d_Planner_arrange_22 : decode b_Planner_arrange 22 = .ok (.iload_n 3, 1) := by decide +kernel
theorem d_Planner_arrange_23 : decode b_Planner_arrange 23 = .ok (.aload_n 0, 1) := by decide +kernel
theorem d_Planner_arrange_24 : decode b_Planner_arrange 24 = .ok (.getfield 33, 3) := by decide +kernel
theorem d_Planner_arrange_27 : decode b_Planner_arrange 27 = .ok (.imul, 1) := by decide +kernel
theorem d_Planner_arrange_28 : decode b_Planner_arrange 28 = .ok (.newarray .long, 2) := by decide +kernel
theorem d_Planner_arrange_30 : decode b_Planner_arrange 30 = .ok (.putfield 29, 3) := by decide +kernel
theorem d_Planner_arrange_33 : decode b_Planner_arrange 33 = .ok (.iconst 0, 1) := by decide +kernel
theorem d_Planner_arrange_34 : decode b_Planner_arrange 34 = .ok (.istore 4, 2) := by decide +kernel
theorem d_Planner_arrange_36 : decode b_Planner_arrange 36 = .ok (.iconst 0, 1) := by decide +kernel
theorem d_Planner_arrange_37 : decode b_Planner_arrange 37 = .ok (.istore 5, 2) := by decide +kernel
theorem d_Planner_arrange_39 : decode b_Planner_arrange 39 = .ok (.lconst 0, 1) := by decide +kernel
theorem d_Planner_arrange_40 : decode b_Planner_arrange 40 = .ok (.lstore 6, 2) := by decide +kernel
theorem d_Planner_arrange_42 : decode b_Planner_arrange 42 = .ok (.iconst 1, 1) := by decide +kernel
theorem d_Planner_arrange_43 : decode b_Planner_arrange 43 = .ok (.istore 8, 2) := by decide +kernel
theorem d_Planner_arrange_45 : decode b_Planner_arrange 45 = .ok (.iload 8, 2) := by decide +kernel
theorem d_Planner_arrange_47 : decode b_Planner_arrange 47 = .ok (.iload_n 3, 1) := by decide +kernel
theorem d_Planner_arrange_48 : decode b_Planner_arrange 48 = .ok (.if_icmp .ge 80, 3) := by decide +kernel
theorem d_Planner_arrange_51 : decode b_Planner_arrange 51 = .ok (.aload_n 0, 1) := by decide +kernel
theorem d_Planner_arrange_52 : decode b_Planner_arrange 52 = .ok (.iload 8, 2) := by decide +kernel
theorem d_Planner_arrange_54 : decode b_Planner_arrange 54 = .ok (.invokevirtual 45, 3) := by decide +kernel
theorem d_Planner_arrange_57 : decode b_Planner_arrange 57 = .ok (.istore 9, 2) := by decide +kernel
theorem d_Planner_arrange_59 : decode b_Planner_arrange 59 = .ok (.aload_n 0, 1) := by decide +kernel
theorem d_Planner_arrange_60 : decode b_Planner_arrange 60 = .ok (.iload 8, 2) := by decide +kernel
theorem d_Planner_arrange_62 : decode b_Planner_arrange 62 = .ok (.iload 9, 2) := by decide +kernel
theorem d_Planner_arrange_64 : decode b_Planner_arrange 64 = .ok (.iload_n 1, 1) := by decide +kernel
theorem d_Planner_arrange_65 : decode b_Planner_arrange 65 = .ok (.if_icmp .gt 7, 3) := by decide +kernel
theorem d_Planner_arrange_68 : decode b_Planner_arrange 68 = .ok (.iconst 1, 1) := by decide +kernel
theorem d_Planner_arrange_69 : decode b_Planner_arrange 69 = .ok (.goto 4, 3) := by decide +kernel
theorem d_Planner_arrange_72 : decode b_Planner_arrange 72 = .ok (.iconst 0, 1) := by decide +kernel
theorem d_Planner_arrange_73 : decode b_Planner_arrange 73 = .ok (.iload_n 2, 1) := by decide +kernel
theorem d_Planner_arrange_74 : decode b_Planner_arrange 74 = .ok (.invokevirtual 49, 3) := by decide +kernel
theorem d_Planner_arrange_77 : decode b_Planner_arrange 77 = .ok (.lstore 10, 2) := by decide +kernel
theorem d_Planner_arrange_79 : decode b_Planner_arrange 79 = .ok (.lload 10, 2) := by decide +kernel
theorem d_Planner_arrange_81 : decode b_Planner_arrange 81 = .ok (.ldc2_w 53, 3) := by decide +kernel
theorem d_Planner_arrange_84 : decode b_Planner_arrange 84 = .ok (.lcmp, 1) := by decide +kernel
theorem d_Planner_arrange_85 : decode b_Planner_arrange 85 = .ok (.ifCond .eq 37, 3) := by decide +kernel
theorem d_Planner_arrange_88 : decode b_Planner_arrange 88 = .ok (.iload 9, 2) := by decide +kernel
theorem d_Planner_arrange_90 : decode b_Planner_arrange 90 = .ok (.iload 4, 2) := by decide +kernel
theorem d_Planner_arrange_92 : decode b_Planner_arrange 92 = .ok (.if_icmp .gt 18, 3) := by decide +kernel
theorem d_Planner_arrange_95 : decode b_Planner_arrange 95 = .ok (.iload 9, 2) := by decide +kernel
theorem d_Planner_arrange_97 : decode b_Planner_arrange 97 = .ok (.iload 4, 2) := by decide +kernel
theorem d_Planner_arrange_99 : decode b_Planner_arrange 99 = .ok (.if_icmp .ne 23, 3) := by decide +kernel
theorem d_Planner_arrange_102 : decode b_Planner_arrange 102 = .ok (.lload 10, 2) := by decide +kernel
theorem d_Planner_arrange_104 : decode b_Planner_arrange 104 = .ok (.lload 6, 2) := by decide +kernel
theorem d_Planner_arrange_106 : decode b_Planner_arrange 106 = .ok (.lcmp, 1) := by decide +kernel
theorem d_Planner_arrange_107 : decode b_Planner_arrange 107 = .ok (.ifCond .ge 15, 3) := by decide +kernel
theorem d_Planner_arrange_110 : decode b_Planner_arrange 110 = .ok (.iload 9, 2) := by decide +kernel
theorem d_Planner_arrange_112 : decode b_Planner_arrange 112 = .ok (.istore 4, 2) := by decide +kernel
theorem d_Planner_arrange_114 : decode b_Planner_arrange 114 = .ok (.iload 8, 2) := by decide +kernel
theorem d_Planner_arrange_116 : decode b_Planner_arrange 116 = .ok (.istore 5, 2) := by decide +kernel
theorem d_Planner_arrange_118 : decode b_Planner_arrange 118 = .ok (.lload 10, 2) := by decide +kernel
theorem d_Planner_arrange_120 : decode b_Planner_arrange 120 = .ok (.lstore 6, 2) := by decide +kernel
theorem d_Planner_arrange_122 : decode b_Planner_arrange 122 = .ok (.iinc 8 1, 3) := by decide +kernel
theorem d_Planner_arrange_125 : decode b_Planner_arrange 125 = .ok (.goto (-80), 3) := by decide +kernel
theorem d_Planner_arrange_128 : decode b_Planner_arrange 128 = .ok (.aload_n 0, 1) := by decide +kernel
theorem d_Planner_arrange_129 : decode b_Planner_arrange 129 = .ok (.iload 5, 2) := by decide +kernel
theorem d_Planner_arrange_131 : decode b_Planner_arrange 131 = .ok (.invokestatic 55, 3) := by decide +kernel
theorem d_Planner_arrange_134 : decode b_Planner_arrange 134 = .ok (.lload 6, 2) := by decide +kernel
theorem d_Planner_arrange_136 : decode b_Planner_arrange 136 = .ok (.invokevirtual 60, 3) := by decide +kernel
theorem d_Planner_arrange_139 : decode b_Planner_arrange 139 = .ok (.iload 4, 2) := by decide +kernel
theorem d_Planner_arrange_141 : decode b_Planner_arrange 141 = .ok (.ireturn, 1) := by decide +kernel
theorem d_Planner_minutesOf_0 : decode b_Planner_minutesOf 0 = .ok (.iconst 0, 1) := by decide +kernel
theorem d_Planner_minutesOf_1 : decode b_Planner_minutesOf 1 = .ok (.istore_n 2, 1) := by decide +kernel
theorem d_Planner_minutesOf_2 : decode b_Planner_minutesOf 2 = .ok (.iconst 0, 1) := by decide +kernel
theorem d_Planner_minutesOf_3 : decode b_Planner_minutesOf 3 = .ok (.istore_n 3, 1) := by decide +kernel
theorem d_Planner_minutesOf_4 : decode b_Planner_minutesOf 4 = .ok (.iload_n 3, 1) := by decide +kernel
theorem d_Planner_minutesOf_5 : decode b_Planner_minutesOf 5 = .ok (.aload_n 0, 1) := by decide +kernel
theorem d_Planner_minutesOf_6 : decode b_Planner_minutesOf 6 = .ok (.getfield 33, 3) := by decide +kernel
theorem d_Planner_minutesOf_9 : decode b_Planner_minutesOf 9 = .ok (.if_icmp .ge 26, 3) := by decide +kernel
theorem d_Planner_minutesOf_12 : decode b_Planner_minutesOf 12 = .ok (.iload_n 1, 1) := by decide +kernel
theorem d_Planner_minutesOf_13 : decode b_Planner_minutesOf 13 = .ok (.iload_n 3, 1) := by decide +kernel
theorem d_Planner_minutesOf_14 : decode b_Planner_minutesOf 14 = .ok (.ishr, 1) := by decide +kernel
theorem d_Planner_minutesOf_15 : decode b_Planner_minutesOf 15 = .ok (.iconst 1, 1) := by decide +kernel
theorem d_Planner_minutesOf_16 : decode b_Planner_minutesOf 16 = .ok (.iand, 1) := by decide +kernel
theorem d_Planner_minutesOf_17 : decode b_Planner_minutesOf 17 = .ok (.ifCond .eq 12, 3) := by decide +kernel
theorem d_Planner_minutesOf_20 : decode b_Planner_minutesOf 20 = .ok (.iload_n 2, 1) := by decide +kernel
theorem d_Planner_minutesOf_21 : decode b_Planner_minutesOf 21 = .ok (.aload_n 0, 1) := by decide +kernel
theorem d_Planner_minutesOf_22 : decode b_Planner_minutesOf 22 = .ok (.getfield 20, 3) := by decide +kernel
theorem d_Planner_minutesOf_25 : decode b_Planner_minutesOf 25 = .ok (.iload_n 3, 1) := by decide +kernel
theorem d_Planner_minutesOf_26 : decode b_Planner_minutesOf 26 = .ok (.iaload, 1) := by decide +kernel
theorem d_Planner_minutesOf_27 : decode b_Planner_minutesOf 27 = .ok (.iadd, 1) := by decide +kernel
theorem d_Planner_minutesOf_28 : decode b_Planner_minutesOf 28 = .ok (.istore_n 2, 1) := by decide +kernel
theorem d_Planner_minutesOf_29 : decode b_Planner_minutesOf 29 = .ok (.iinc 3 1, 3) := by decide +kernel
theorem d_Planner_minutesOf_32 : decode b_Planner_minutesOf 32 = .ok (.goto (-28), 3) := by decide +kernel
theorem d_Planner_minutesOf_35 : decode b_Planner_minutesOf 35 = .ok (.iload_n 2, 1) := by decide +kernel
theorem d_Planner_minutesOf_36 : decode b_Planner_minutesOf 36 = .ok (.ireturn, 1) := by decide +kernel
theorem d_Planner_fillSet_0 : decode b_Planner_fillSet 0 = .ok (.ldc2_w 53, 3) := by decide +kernel
theorem d_Planner_fillSet_3 : decode b_Planner_fillSet 3 = .ok (.lstore 4, 2) := by decide +kernel
theorem d_Planner_fillSet_5 : decode b_Planner_fillSet 5 = .ok (.iconst 0, 1) := by decide +kernel
theorem d_Planner_fillSet_6 : decode b_Planner_fillSet 6 = .ok (.istore 6, 2) := by decide +kernel
theorem d_Planner_fillSet_8 : decode b_Planner_fillSet 8 = .ok (.iload 6, 2) := by decide +kernel
theorem d_Planner_fillSet_10 : decode b_Planner_fillSet 10 = .ok (.aload_n 0, 1) := by decide +kernel
theorem d_Planner_fillSet_11 : decode b_Planner_fillSet 11 = .ok (.getfield 33, 3) := by decide +kernel
theorem d_Planner_fillSet_14 : decode b_Planner_fillSet 14 = .ok (.if_icmp .ge 75, 3) := by decide +kernel
theorem d_Planner_fillSet_17 : decode b_Planner_fillSet 17 = .ok (.iload_n 2, 1) := by decide +kernel
theorem d_Planner_fillSet_18 : decode b_Planner_fillSet 18 = .ok (.ifCond .eq 16, 3) := by decide +kernel
theorem d_Planner_fillSet_21 : decode b_Planner_fillSet 21 = .ok (.iload_n 1, 1) := by decide +kernel
theorem d_Planner_fillSet_22 : decode b_Planner_fillSet 22 = .ok (.iload 6, 2) := by decide +kernel
theorem d_Planner_fillSet_24 : decode b_Planner_fillSet 24 = .ok (.ishr, 1) := by decide +kernel
theorem d_Planner_fillSet_25 : decode b_Planner_fillSet 25 = .ok (.iconst 1, 1) := by decide +kernel
theorem d_Planner_fillSet_26 : decode b_Planner_fillSet 26 = .ok (.iand, 1) := by decide +kernel
theorem d_Planner_fillSet_27 : decode b_Planner_fillSet 27 = .ok (.ifCond .eq 7, 3) := by decide +kernel
theorem d_Planner_fillSet_30 : decode b_Planner_fillSet 30 = .ok (.iconst 1, 1) := by decide +kernel
theorem d_Planner_fillSet_31 : decode b_Planner_fillSet 31 = .ok (.goto 4, 3) := by decide +kernel
theorem d_Planner_fillSet_34 : decode b_Planner_fillSet 34 = .ok (.iconst 0, 1) := by decide +kernel
theorem d_Planner_fillSet_35 : decode b_Planner_fillSet 35 = .ok (.istore 7, 2) := by decide +kernel
theorem d_Planner_fillSet_37 : decode b_Planner_fillSet 37 = .ok (.iload 7, 2) := by decide +kernel
theorem d_Planner_fillSet_39 : decode b_Planner_fillSet 39 = .ok (.ifCond .eq 14, 3) := by decide +kernel
theorem d_Planner_fillSet_42 : decode b_Planner_fillSet 42 = .ok (.aload_n 0, 1) := by decide +kernel
theorem d_Planner_fillSet_43 : decode b_Planner_fillSet 43 = .ok (.iload_n 1, 1) := by decide +kernel
theorem d_Planner_fillSet_44 : decode b_Planner_fillSet 44 = .ok (.iload 6, 2) := by decide +kernel
theorem d_Planner_fillSet_46 : decode b_Planner_fillSet 46 = .ok (.iload_n 3, 1) := by decide +kernel
theorem d_Planner_fillSet_47 : decode b_Planner_fillSet 47 = .ok (.invokevirtual 64, 3) := by decide +kernel
theorem d_Planner_fillSet_50 : decode b_Planner_fillSet 50 = .ok (.goto 6, 3) := by decide +kernel
theorem d_Planner_fillSet_53 : decode b_Planner_fillSet 53 = .ok (.ldc2_w 53, 3) := by decide +kernel
theorem d_Planner_fillSet_56 : decode b_Planner_fillSet 56 = .ok (.lstore 8, 2) := by decide +kernel
theorem d_Planner_fillSet_58 : decode b_Planner_fillSet 58 = .ok (.aload_n 0, 1) := by decide +kernel
theorem d_Planner_fillSet_59 : decode b_Planner_fillSet 59 = .ok (.getfield 29, 3) := by decide +kernel
theorem d_Planner_fillSet_62 : decode b_Planner_fillSet 62 = .ok (.iload_n 1, 1) := by decide +kernel
theorem d_Planner_fillSet_63 : decode b_Planner_fillSet 63 = .ok (.aload_n 0, 1) := by decide +kernel
theorem d_Planner_fillSet_64 : decode b_Planner_fillSet 64 = .ok (.getfield 33, 3) := by decide +kernel
theorem d_Planner_fillSet_67 : decode b_Planner_fillSet 67 = .ok (.imul, 1) := by decide +kernel
theorem d_Planner_fillSet_68 : decode b_Planner_fillSet 68 = .ok (.iload 6, 2) := by decide +kernel
theorem d_Planner_fillSet_70 : decode b_Planner_fillSet 70 = .ok (.iadd, 1) := by decide +kernel
theorem d_Planner_fillSet_71 : decode b_Planner_fillSet 71 = .ok (.lload 8, 2) := by decide +kernel
theorem d_Planner_fillSet_73 : decode b_Planner_fillSet 73 = .ok (.lastore, 1) := by decide +kernel
theorem d_Planner_fillSet_74 : decode b_Planner_fillSet 74 = .ok (.lload 4, 2) := by decide +kernel
theorem d_Planner_fillSet_76 : decode b_Planner_fillSet 76 = .ok (.lload 8, 2) := by decide +kernel
theorem d_Planner_fillSet_78 : decode b_Planner_fillSet 78 = .ok (.invokestatic 68, 3) := by decide +kernel
theorem d_Planner_fillSet_81 : decode b_Planner_fillSet 81 = .ok (.lstore 4, 2) := by decide +kernel
theorem d_Planner_fillSet_83 : decode b_Planner_fillSet 83 = .ok (.iinc 6 1, 3) := by decide +kernel
theorem d_Planner_fillSet_86 : decode b_Planner_fillSet 86 = .ok (.goto (-78), 3) := by decide +kernel
theorem d_Planner_fillSet_89 : decode b_Planner_fillSet 89 = .ok (.lload 4, 2) := by decide +kernel
theorem d_Planner_fillSet_91 : decode b_Planner_fillSet 91 = .ok (.lreturn, 1) := by decide +kernel
theorem d_Planner_bestEndingWith_0 : decode b_Planner_bestEndingWith 0 = .ok (.iload_n 1, 1) := by decide +kernel
theorem d_Planner_bestEndingWith_1 : decode b_Planner_bestEndingWith 1 = .ok (.iconst 1, 1) := by decide +kernel
theorem d_Planner_bestEndingWith_2 : decode b_Planner_bestEndingWith 2 = .ok (.iload_n 2, 1) := by decide +kernel
theorem d_Planner_bestEndingWith_3 : decode b_Planner_bestEndingWith 3 = .ok (.ishl, 1) := by decide +kernel
theorem d_Planner_bestEndingWith_4 : decode b_Planner_bestEndingWith 4 = .ok (.iconst (-1), 1) := by decide +kernel
theorem d_Planner_bestEndingWith_5 : decode b_Planner_bestEndingWith 5 = .ok (.ixor, 1) := by decide +kernel
theorem d_Planner_bestEndingWith_6 : decode b_Planner_bestEndingWith 6 = .ok (.iand, 1) := by decide +kernel
theorem d_Planner_bestEndingWith_7 : decode b_Planner_bestEndingWith 7 = .ok (.istore 4, 2) := by decide +kernel
theorem d_Planner_bestEndingWith_9 : decode b_Planner_bestEndingWith 9 = .ok (.aload_n 0, 1) := by decide +kernel
theorem d_Planner_bestEndingWith_10 : decode b_Planner_bestEndingWith 10 = .ok (.getfield 17, 3) := by decide +kernel
theorem d_Planner_bestEndingWith_13 : decode b_Planner_bestEndingWith 13 = .ok (.iload_n 2, 1) := by decide +kernel
theorem d_Planner_bestEndingWith_14 : decode b_Planner_bestEndingWith 14 = .ok (.iaload, 1) := by decide +kernel
theorem d_Planner_bestEndingWith_15 : decode b_Planner_bestEndingWith 15 = .ok (.i2l, 1) := by decide +kernel
theorem d_Planner_bestEndingWith_16 : decode b_Planner_bestEndingWith 16 = .ok (.getstatic 74, 3) := by decide +kernel
theorem d_Planner_bestEndingWith_19 : decode b_Planner_bestEndingWith 19 = .ok (.iload 4, 2) := by decide +kernel
theorem d_Planner_bestEndingWith_21 : decode b_Planner_bestEndingWith 21 = .ok (.invokestatic 55, 3) := by decide +kernel
theorem d_Planner_bestEndingWith_24 : decode b_Planner_bestEndingWith 24 = .ok (.laload, 1) := by decide +kernel
theorem d_Planner_bestEndingWith_25 : decode b_Planner_bestEndingWith 25 = .ok (.lmul, 1) := by decide +kernel
theorem d_Planner_bestEndingWith_26 : decode b_Planner_bestEndingWith 26 = .ok (.lstore 5, 2) := by decide +kernel
theorem d_Planner_bestEndingWith_28 : decode b_Planner_bestEndingWith 28 = .ok (.iload 4, 2) := by decide +kernel
theorem d_Planner_bestEndingWith_30 : decode b_Planner_bestEndingWith 30 = .ok (.ifCond .ne 6, 3) := by decide +kernel
theorem d_Planner_bestEndingWith_33 : decode b_Planner_bestEndingWith 33 = .ok (.lload 5, 2) := by decide +kernel
theorem d_Planner_bestEndingWith_35 : decode b_Planner_bestEndingWith 35 = .ok (.lreturn, 1) := by decide +kernel
theorem d_Planner_bestEndingWith_36 : decode b_Planner_bestEndingWith 36 = .ok (.ldc2_w 53, 3) := by decide +kernel
theorem d_Planner_bestEndingWith_39 : decode b_Planner_bestEndingWith 39 = .ok (.lstore 7, 2) := by decide +kernel
theorem d_Planner_bestEndingWith_41 : decode b_Planner_bestEndingWith 41 = .ok (.iconst 0, 1) := by decide +kernel
theorem d_Planner_bestEndingWith_42 : decode b_Planner_bestEndingWith 42 = .ok (.istore 9, 2) := by decide +kernel
theorem d_Planner_bestEndingWith_44 : decode b_Planner_bestEndingWith 44 = .ok (.iload 9, 2) := by decide +kernel
theorem d_Planner_bestEndingWith_46 : decode b_Planner_bestEndingWith 46 = .ok (.aload_n 0, 1) := by decide +kernel
theorem d_Planner_bestEndingWith_47 : decode b_Planner_bestEndingWith 47 = .ok (.getfield 33, 3) := by decide +kernel
theorem d_Planner_bestEndingWith_50 : decode b_Planner_bestEndingWith 50 = .ok (.if_icmp .ge 91, 3) := by decide +kernel
theorem d_Planner_bestEndingWith_53 : decode b_Planner_bestEndingWith 53 = .ok (.iload 4, 2) := by decide +kernel
theorem d_Planner_bestEndingWith_55 : decode b_Planner_bestEndingWith 55 = .ok (.iload 9, 2) := by decide +kernel
theorem d_Planner_bestEndingWith_57 : decode b_Planner_bestEndingWith 57 = .ok (.ishr, 1) := by decide +kernel
theorem d_Planner_bestEndingWith_58 : decode b_Planner_bestEndingWith 58 = .ok (.iconst 1, 1) := by decide +kernel
theorem d_Planner_bestEndingWith_59 : decode b_Planner_bestEndingWith 59 = .ok (.iand, 1) := by decide +kernel
theorem d_Planner_bestEndingWith_60 : decode b_Planner_bestEndingWith 60 = .ok (.ifCond .eq 75, 3) := by decide +kernel
theorem d_Planner_bestEndingWith_63 : decode b_Planner_bestEndingWith 63 = .ok (.aload_n 0, 1) := by decide +kernel
theorem d_Planner_bestEndingWith_64 : decode b_Planner_bestEndingWith 64 = .ok (.getfield 23, 3) := by decide +kernel
theorem d_Planner_bestEndingWith_67 : decode b_Planner_bestEndingWith 67 = .ok (.iload 9, 2) := by decide +kernel
theorem d_Planner_bestEndingWith_69 : decode b_Planner_bestEndingWith 69 = .ok (.iaload, 1) := by decide +kernel
theorem d_Planner_bestEndingWith_70 : decode b_Planner_bestEndingWith 70 = .ok (.aload_n 0, 1) := by decide +kernel
theorem d_Planner_bestEndingWith_71 : decode b_Planner_bestEndingWith 71 = .ok (.getfield 23, 3) := by decide +kernel
theorem d_Planner_bestEndingWith_74 : decode b_Planner_bestEndingWith 74 = .ok (.iload_n 2, 1) := by decide +kernel
theorem d_Planner_bestEndingWith_75 : decode b_Planner_bestEndingWith 75 = .ok (.iaload, 1) := by decide +kernel
theorem d_Planner_bestEndingWith_76 : decode b_Planner_bestEndingWith 76 = .ok (.iadd, 1) := by decide +kernel
theorem d_Planner_bestEndingWith_77 : decode b_Planner_bestEndingWith 77 = .ok (.iload_n 3, 1) := by decide +kernel
theorem d_Planner_bestEndingWith_78 : decode b_Planner_bestEndingWith 78 = .ok (.if_icmp .le 6, 3) := by decide +kernel
theorem d_Planner_bestEndingWith_81 : decode b_Planner_bestEndingWith 81 = .ok (.goto 54, 3) := by decide +kernel
theorem d_Planner_bestEndingWith_84 : decode b_Planner_bestEndingWith 84 = .ok (.aload_n 0, 1) := by decide +kernel
theorem d_Planner_bestEndingWith_85 : decode b_Planner_bestEndingWith 85 = .ok (.getfield 29, 3) := by decide +kernel
theorem d_Planner_bestEndingWith_88 : decode b_Planner_bestEndingWith 88 = .ok (.iload 4, 2) := by decide +kernel
theorem d_Planner_bestEndingWith_90 : decode b_Planner_bestEndingWith 90 = .ok (.aload_n 0, 1) := by decide +kernel
theorem d_Planner_bestEndingWith_91 : decode b_Planner_bestEndingWith 91 = .ok (.getfield 33, 3) := by decide +kernel
theorem d_Planner_bestEndingWith_94 : decode b_Planner_bestEndingWith 94 = .ok (.imul, 1) := by decide +kernel
theorem d_Planner_bestEndingWith_95 : decode b_Planner_bestEndingWith 95 = .ok (.iload 9, 2) := by decide +kernel
theorem d_Planner_bestEndingWith_97 : decode b_Planner_bestEndingWith 97 = .ok (.iadd, 1) := by decide +kernel
theorem d_Planner_bestEndingWith_98 : decode b_Planner_bestEndingWith 98 = .ok (.laload, 1) := by decide +kernel
theorem d_Planner_bestEndingWith_99 : decode b_Planner_bestEndingWith 99 = .ok (.lstore 10, 2) := by decide +kernel
theorem d_Planner_bestEndingWith_101 : decode b_Planner_bestEndingWith 101 = .ok (.lload 10, 2) := by decide +kernel
theorem d_Planner_bestEndingWith_103 : decode b_Planner_bestEndingWith 103 = .ok (.ldc2_w 53, 3) := by decide +kernel
theorem d_Planner_bestEndingWith_106 : decode b_Planner_bestEndingWith 106 = .ok (.lcmp, 1) := by decide +kernel
theorem d_Planner_bestEndingWith_107 : decode b_Planner_bestEndingWith 107 = .ok (.ifCond .eq 28, 3) := by decide +kernel
theorem d_Planner_bestEndingWith_110 : decode b_Planner_bestEndingWith 110 = .ok (.lload 7, 2) := by decide +kernel
theorem d_Planner_bestEndingWith_112 : decode b_Planner_bestEndingWith 112 = .ok (.lload 10, 2) := by decide +kernel
theorem d_Planner_bestEndingWith_114 : decode b_Planner_bestEndingWith 114 = .ok (.aload_n 0, 1) := by decide +kernel
theorem d_Planner_bestEndingWith_115 : decode b_Planner_bestEndingWith 115 = .ok (.iload 9, 2) := by decide +kernel
theorem d_Planner_bestEndingWith_117 : decode b_Planner_bestEndingWith 117 = .ok (.iload_n 2, 1) := by decide +kernel
theorem d_Planner_bestEndingWith_118 : decode b_Planner_bestEndingWith 118 = .ok (.invokevirtual 77, 3) := by decide +kernel
theorem d_Planner_bestEndingWith_121 : decode b_Planner_bestEndingWith 121 = .ok (.i2l, 1) := by decide +kernel
theorem d_Planner_bestEndingWith_122 : decode b_Planner_bestEndingWith 122 = .ok (.ldc2_w 81, 3) := by decide +kernel
theorem d_Planner_bestEndingWith_125 : decode b_Planner_bestEndingWith 125 = .ok (.lmul, 1) := by decide +kernel
theorem d_Planner_bestEndingWith_126 : decode b_Planner_bestEndingWith 126 = .ok (.ladd, 1) := by decide +kernel
theorem d_Planner_bestEndingWith_127 : decode b_Planner_bestEndingWith 127 = .ok (.lload 5, 2) := by decide +kernel
theorem d_Planner_bestEndingWith_129 : decode b_Planner_bestEndingWith 129 = .ok (.ladd, 1) := by decide +kernel
theorem d_Planner_bestEndingWith_130 : decode b_Planner_bestEndingWith 130 = .ok (.invokestatic 68, 3) := by decide +kernel
theorem d_Planner_bestEndingWith_133 : decode b_Planner_bestEndingWith 133 = .ok (.lstore 7, 2) := by decide +kernel
theorem d_Planner_bestEndingWith_135 : decode b_Planner_bestEndingWith 135 = .ok (.iinc 9 1, 3) := by decide +kernel
theorem d_Planner_bestEndingWith_138 : decode b_Planner_bestEndingWith 138 = .ok (.goto (-94), 3) := by decide +kernel
theorem d_Planner_bestEndingWith_141 : decode b_Planner_bestEndingWith 141 = .ok (.lload 7, 2) := by decide +kernel
theorem d_Planner_bestEndingWith_143 : decode b_Planner_bestEndingWith 143 = .ok (.lreturn, 1) := by decide +kernel
theorem d_Planner_keyGap_0 : decode b_Planner_keyGap 0 = .ok (.aload_n 0, 1) := by decide +kernel
theorem d_Planner_keyGap_1 : decode b_Planner_keyGap 1 = .ok (.getfield 26, 3) := by decide +kernel
theorem d_Planner_keyGap_4 : decode b_Planner_keyGap 4 = .ok (.iload_n 1, 1) := by decide +kernel
theorem d_Planner_keyGap_5 : decode b_Planner_keyGap 5 = .ok (.iaload, 1) := by decide +kernel
theorem d_Planner_keyGap_6 : decode b_Planner_keyGap 6 = .ok (.aload_n 0, 1) := by decide +kernel
theorem d_Planner_keyGap_7 : decode b_Planner_keyGap 7 = .ok (.getfield 26, 3) := by decide +kernel
theorem d_Planner_keyGap_10 : decode b_Planner_keyGap 10 = .ok (.iload_n 2, 1) := by decide +kernel
theorem d_Planner_keyGap_11 : decode b_Planner_keyGap 11 = .ok (.iaload, 1) := by decide +kernel
theorem d_Planner_keyGap_12 : decode b_Planner_keyGap 12 = .ok (.isub, 1) := by decide +kernel
theorem d_Planner_keyGap_13 : decode b_Planner_keyGap 13 = .ok (.invokestatic 83, 3) := by decide +kernel
theorem d_Planner_keyGap_16 : decode b_Planner_keyGap 16 = .ok (.istore_n 3, 1) := by decide +kernel
theorem d_Planner_keyGap_17 : decode b_Planner_keyGap 17 = .ok (.iload_n 3, 1) := by decide +kernel
theorem d_Planner_keyGap_18 : decode b_Planner_keyGap 18 = .ok (.bipush 12, 2) := by decide +kernel
theorem d_Planner_keyGap_20 : decode b_Planner_keyGap 20 = .ok (.iload_n 3, 1) := by decide +kernel
theorem d_Planner_keyGap_21 : decode b_Planner_keyGap 21 = .ok (.isub, 1) := by decide +kernel
theorem d_Planner_keyGap_22 : decode b_Planner_keyGap 22 = .ok (.invokestatic 86, 3) := by decide +kernel
theorem d_Planner_keyGap_25 : decode b_Planner_keyGap 25 = .ok (.ireturn, 1) := by decide +kernel
theorem d_Planner_keepRow_0 : decode b_Planner_keepRow 0 = .ok (.aload_n 0, 1) := by decide +kernel
theorem d_Planner_keepRow_1 : decode b_Planner_keepRow 1 = .ok (.iload_n 1, 1) := by decide +kernel
theorem d_Planner_keepRow_2 : decode b_Planner_keepRow 2 = .ok (.putfield 88, 3) := by decide +kernel
theorem d_Planner_keepRow_5 : decode b_Planner_keepRow 5 = .ok (.aload_n 0, 1) := by decide +kernel
theorem d_Planner_keepRow_6 : decode b_Planner_keepRow 6 = .ok (.lload_n 2, 1) := by decide +kernel
theorem d_Planner_keepRow_7 : decode b_Planner_keepRow 7 = .ok (.ldc2_w 81, 3) := by decide +kernel
theorem d_Planner_keepRow_10 : decode b_Planner_keepRow 10 = .ok (.ldiv, 1) := by decide +kernel
theorem d_Planner_keepRow_11 : decode b_Planner_keepRow 11 = .ok (.l2i, 1) := by decide +kernel
theorem d_Planner_keepRow_12 : decode b_Planner_keepRow 12 = .ok (.putfield 91, 3) := by decide +kernel
theorem d_Planner_keepRow_15 : decode b_Planner_keepRow 15 = .ok (.iconst 0, 1) := by decide +kernel
theorem d_Planner_keepRow_16 : decode b_Planner_keepRow 16 = .ok (.istore 4, 2) := by decide +kernel
theorem d_Planner_keepRow_18 : decode b_Planner_keepRow 18 = .ok (.iload 4, 2) := by decide +kernel
theorem d_Planner_keepRow_20 : decode b_Planner_keepRow 20 = .ok (.iload_n 1, 1) := by decide +kernel
theorem d_Planner_keepRow_21 : decode b_Planner_keepRow 21 = .ok (.if_icmp .ge 36, 3) := by decide +kernel
theorem d_Planner_keepRow_24 : decode b_Planner_keepRow 24 = .ok (.iload 4, 2) := by decide +kernel
theorem d_Planner_keepRow_26 : decode b_Planner_keepRow 26 = .ok (.bipush 10, 2) := by decide +kernel
theorem d_Planner_keepRow_28 : decode b_Planner_keepRow 28 = .ok (.if_icmp .ge 29, 3) := by decide +kernel
theorem d_Planner_keepRow_31 : decode b_Planner_keepRow 31 = .ok (.aload_n 0, 1) := by decide +kernel
theorem d_Planner_keepRow_32 : decode b_Planner_keepRow 32 = .ok (.getfield 11, 3) := by decide +kernel
theorem d_Planner_keepRow_35 : decode b_Planner_keepRow 35 = .ok (.iload 4, 2) := by decide +kernel
theorem d_Planner_keepRow_37 : decode b_Planner_keepRow 37 = .ok (.lload_n 2, 1) := by decide +kernel
theorem d_Planner_keepRow_38 : decode b_Planner_keepRow 38 = .ok (.getstatic 74, 3) := by decide +kernel
theorem d_Planner_keepRow_41 : decode b_Planner_keepRow 41 = .ok (.iload 4, 2) := by decide +kernel
theorem d_Planner_keepRow_43 : decode b_Planner_keepRow 43 = .ok (.laload, 1) := by decide +kernel
theorem d_Planner_keepRow_44 : decode b_Planner_keepRow 44 = .ok (.ldiv, 1) := by decide +kernel
theorem d_Planner_keepRow_45 : decode b_Planner_keepRow 45 = .ok (.ldc2_w 94, 3) := by decide +kernel
theorem d_Planner_keepRow_48 : decode b_Planner_keepRow 48 = .ok (.lrem, 1) := by decide +kernel
theorem d_Planner_keepRow_49 : decode b_Planner_keepRow 49 = .ok (.l2i, 1) := by decide +kernel
theorem d_Planner_keepRow_50 : decode b_Planner_keepRow 50 = .ok (.iastore, 1) := by decide +kernel
theorem d_Planner_keepRow_51 : decode b_Planner_keepRow 51 = .ok (.iinc 4 1, 3) := by decide +kernel
theorem d_Planner_keepRow_54 : decode b_Planner_keepRow 54 = .ok (.goto (-36), 3) := by decide +kernel
theorem d_Planner_keepRow_57 : decode b_Planner_keepRow 57 = .ok (.return_, 1) := by decide +kernel
theorem d_Players_init_0 : decode b_Players_init 0 = .ok (.aload_n 0, 1) := by decide +kernel
theorem d_Players_init_1 : decode b_Players_init 1 = .ok (.invokespecial 3, 3) := by decide +kernel
theorem d_Players_init_4 : decode b_Players_init 4 = .ok (.aload_n 0, 1) := by decide +kernel
theorem d_Players_init_5 : decode b_Players_init 5 = .ok (.bipush 14, 2) := by decide +kernel
theorem d_Players_init_7 : decode b_Players_init 7 = .ok (.newarray .int, 2) := by decide +kernel
theorem d_Players_init_9 : decode b_Players_init 9 = .ok (.putfield 9, 3) := by decide +kernel
theorem d_Players_init_12 : decode b_Players_init 12 = .ok (.aload_n 0, 1) := by decide +kernel
theorem d_Players_init_13 : decode b_Players_init 13 = .ok (.bipush 14, 2) := by decide +kernel
theorem d_Players_init_15 : decode b_Players_init 15 = .ok (.newarray .int, 2) := by decide +kernel
theorem d_Players_init_17 : decode b_Players_init 17 = .ok (.putfield 15, 3) := by decide +kernel
theorem d_Players_init_20 : decode b_Players_init 20 = .ok (.aload_n 0, 1) := by decide +kernel
theorem d_Players_init_21 : decode b_Players_init 21 = .ok (.bipush 14, 2) := by decide +kernel
theorem d_Players_init_23 : decode b_Players_init 23 = .ok (.newarray .int, 2) := by decide +kernel
theorem d_Players_init_25 : decode b_Players_init 25 = .ok (.putfield 18, 3) := by decide +kernel
theorem d_Players_init_28 : decode b_Players_init 28 = .ok (.aload_n 0, 1) := by decide +kernel
theorem d_Players_init_29 : decode b_Players_init 29 = .ok (.sipush 140, 3) := by decide +kernel
theorem d_Players_init_32 : decode b_Players_init 32 = .ok (.newarray .int, 2) := by decide +kernel
theorem d_Players_init_34 : decode b_Players_init 34 = .ok (.putfield 21, 3) := by decide +kernel
theorem d_Players_init_37 : decode b_Players_init 37 = .ok (.aload_n 0, 1) := by decide +kernel
theorem d_Players_init_38 : decode b_Players_init 38 = .ok (.getfield 21, 3) := by decide +kernel
theorem d_Players_init_41 : decode b_Players_init 41 = .ok (.iconst (-1), 1) := by decide +kernel
theorem d_Players_init_42 : decode b_Players_init 42 = .ok (.invokestatic 24, 3) := by decide +kernel
theorem d_Players_init_45 : decode b_Players_init 45 = .ok (.return_, 1) := by decide +kernel
theorem d_Players_has_0 : decode b_Players_has 0 = .ok (.iload_n 1, 1) := by decide +kernel
theorem d_Players_has_1 : decode b_Players_has 1 = .ok (.ifCond .lt 15, 3) := by decide +kernel
theorem d_Players_has_4 : decode b_Players_has 4 = .ok (.iload_n 1, 1) := by decide +kernel
theorem d_Players_has_5 : decode b_Players_has 5 = .ok (.aload_n 0, 1) := by decide +kernel
theorem d_Players_has_6 : decode b_Players_has 6 = .ok (.getfield 30, 3) := by decide +kernel
theorem d_Players_has_9 : decode b_Players_has 9 = .ok (.if_icmp .ge 7, 3) := by decide +kernel
theorem d_Players_has_12 : decode b_Players_has 12 = .ok (.iconst 1, 1) := by decide +kernel
theorem d_Players_has_13 : decode b_Players_has 13 = .ok (.goto 4, 3) := by decide +kernel
theorem d_Players_has_16 : decode b_Players_has 16 = .ok (.iconst 0, 1) := by decide +kernel
theorem d_Players_has_17 : decode b_Players_has 17 = .ok (.ireturn, 1) := by decide +kernel
theorem d_Players_join_0 : decode b_Players_join 0 = .ok (.aload_n 0, 1) := by decide +kernel
theorem d_Players_join_1 : decode b_Players_join 1 = .ok (.getfield 30, 3) := by decide +kernel
theorem d_Players_join_4 : decode b_Players_join 4 = .ok (.bipush 14, 2) := by decide +kernel
theorem d_Players_join_6 : decode b_Players_join 6 = .ok (.if_icmp .lt 5, 3) := by decide +kernel
theorem d_Players_join_9 : decode b_Players_join 9 = .ok (.iconst (-1), 1) := by decide +kernel
theorem d_Players_join_10 : decode b_Players_join 10 = .ok (.ireturn, 1) := by decide +kernel
theorem d_Players_join_11 : decode b_Players_join 11 = .ok (.aload_n 0, 1) := by decide +kernel
theorem d_Players_join_12 : decode b_Players_join 12 = .ok (.getfield 9, 3) := by decide +kernel
theorem d_Players_join_15 : decode b_Players_join 15 = .ok (.aload_n 0, 1) := by decide +kernel
theorem d_Players_join_16 : decode b_Players_join 16 = .ok (.getfield 30, 3) := by decide +kernel
theorem d_Players_join_19 : decode b_Players_join 19 = .ok (.iload_n 1, 1) := by decide +kernel
theorem d_Players_join_20 : decode b_Players_join 20 = .ok (.iastore, 1) := by decide +kernel
theorem d_Players_join_21 : decode b_Players_join 21 = .ok (.aload_n 0, 1) := by decide +kernel
theorem d_Players_join_22 : decode b_Players_join 22 = .ok (.getfield 15, 3) := by decide +kernel
theorem d_Players_join_25 : decode b_Players_join 25 = .ok (.aload_n 0, 1) := by decide +kernel
theorem d_Players_join_26 : decode b_Players_join 26 = .ok (.getfield 30, 3) := by decide +kernel
theorem d_Players_join_29 : decode b_Players_join 29 = .ok (.iload_n 2, 1) := by decide +kernel
theorem d_Players_join_30 : decode b_Players_join 30 = .ok (.iastore, 1) := by decide +kernel
theorem d_Players_join_31 : decode b_Players_join 31 = .ok (.aload_n 0, 1) := by decide +kernel
theorem d_Players_join_32 : decode b_Players_join 32 = .ok (.dup, 1) := by decide +kernel
theorem d_Players_join_33 : decode b_Players_join 33 = .ok (.getfield 30, 3) := by decide +kernel
theorem d_Players_join_36 : decode b_Players_join 36 = .ok (.iconst 1, 1) := by decide +kernel
theorem d_Players_join_37 : decode b_Players_join 37 = .ok (.iadd, 1) := by decide +kernel
theorem d_Players_join_38 : decode b_Players_join 38 = .ok (.putfield 30, 3) := by decide +kernel
theorem d_Players_join_41 : decode b_Players_join 41 = .ok (.aload_n 0, 1) := by decide +kernel
theorem d_Players_join_42 : decode b_Players_join 42 = .ok (.getfield 30, 3) := by decide +kernel
theorem d_Players_join_45 : decode b_Players_join 45 = .ok (.iconst 1, 1) := by decide +kernel
theorem d_Players_join_46 : decode b_Players_join 46 = .ok (.isub, 1) := by decide +kernel
theorem d_Players_join_47 : decode b_Players_join 47 = .ok (.ireturn, 1) := by decide +kernel
theorem d_Players_learn_0 : decode b_Players_learn 0 = .ok (.aload_n 0, 1) := by decide +kernel
theorem d_Players_learn_1 : decode b_Players_learn 1 = .ok (.getfield 21, 3) := by decide +kernel
theorem d_Players_learn_4 : decode b_Players_learn 4 = .ok (.iload_n 1, 1) := by decide +kernel
theorem d_Players_learn_5 : decode b_Players_learn 5 = .ok (.bipush 10, 2) := by decide +kernel
theorem d_Players_learn_7 : decode b_Players_learn 7 = .ok (.imul, 1) := by decide +kernel
theorem d_Players_learn_8 : decode b_Players_learn 8 = .ok (.iload_n 2, 1) := by decide +kernel
theorem d_Players_learn_9 : decode b_Players_learn 9 = .ok (.iadd, 1) := by decide +kernel
theorem d_Players_learn_10 : decode b_Players_learn 10 = .ok (.iload_n 3, 1) := by decide +kernel
theorem d_Players_learn_11 : decode b_Players_learn 11 = .ok (.iastore, 1) := by decide +kernel
theorem d_Players_learn_12 : decode b_Players_learn 12 = .ok (.return_, 1) := by decide +kernel
theorem d_Players_costOf_0 : decode b_Players_costOf 0 = .ok (.aload_n 0, 1) := by decide +kernel
theorem d_Players_costOf_1 : decode b_Players_costOf 1 = .ok (.getfield 21, 3) := by decide +kernel
theorem d_Players_costOf_4 : decode b_Players_costOf 4 = .ok (.iload_n 1, 1) := by decide +kernel
theorem d_Players_costOf_5 : decode b_Players_costOf 5 = .ok (.bipush 10, 2) := by decide +kernel
theorem d_Players_costOf_7 : decode b_Players_costOf 7 = .ok (.imul, 1) := by decide +kernel
theorem d_Players_costOf_8 : decode b_Players_costOf 8 = .ok (.iload_n 2, 1) := by decide +kernel
theorem d_Players_costOf_9 : decode b_Players_costOf 9 = .ok (.iadd, 1) := by decide +kernel
theorem d_Players_costOf_10 : decode b_Players_costOf 10 = .ok (.iaload, 1) := by decide +kernel
theorem d_Players_costOf_11 : decode b_Players_costOf 11 = .ok (.ireturn, 1) := by decide +kernel
theorem d_Players_mark_0 : decode b_Players_mark 0 = .ok (.iconst 1, 1) := by decide +kernel
theorem d_Players_mark_1 : decode b_Players_mark 1 = .ok (.iload_n 1, 1) := by decide +kernel
theorem d_Players_mark_2 : decode b_Players_mark 2 = .ok (.ishl, 1) := by decide +kernel
theorem d_Players_mark_3 : decode b_Players_mark 3 = .ok (.istore_n 3, 1) := by decide +kernel
theorem d_Players_mark_4 : decode b_Players_mark 4 = .ok (.aload_n 0, 1) := by decide +kernel
theorem d_Players_mark_5 : decode b_Players_mark 5 = .ok (.iload_n 2, 1) := by decide +kernel
theorem d_Players_mark_6 : decode b_Players_mark 6 = .ok (.ifCond .eq 12, 3) := by decide +kernel
theorem d_Players_mark_9 : decode b_Players_mark 9 = .ok (.aload_n 0, 1) := by decide +kernel
theorem d_Players_mark_10 : decode b_Players_mark 10 = .ok (.getfield 34, 3) := by decide +kernel
theorem d_Players_mark_13 : decode b_Players_mark 13 = .ok (.iload_n 3, 1) := by decide +kernel
theorem d_Players_mark_14 : decode b_Players_mark 14 = .ok (.ior, 1) := by decide +kernel
theorem d_Players_mark_15 : decode b_Players_mark 15 = .ok (.goto 11, 3) := by decide +kernel
theorem d_Players_mark_18 : decode b_Players_mark 18 = .ok (.aload_n 0, 1) := by decide +kernel
theorem d_Players_mark_19 : decode b_Players_mark 19 = .ok (.getfield 34, 3) := by decide +kernel
theorem d_Players_mark_22 : decode b_Players_mark 22 = .ok (.iload_n 3, 1) := by decide +kernel
theorem d_Players_mark_23 : decode b_Players_mark 23 = .ok (.iconst (-1), 1) := by decide +kernel
theorem d_Players_mark_24 : decode b_Players_mark 24 = .ok (.ixor, 1) := by decide +kernel
theorem d_Players_mark_25 : decode b_Players_mark 25 = .ok (.iand, 1) := by decide +kernel
theorem d_Players_mark_26 : decode b_Players_mark 26 = .ok (.putfield 34, 3) := by decide +kernel
theorem d_Players_mark_29 : decode b_Players_mark 29 = .ok (.return_, 1) := by decide +kernel
theorem d_Players_isPresent_0 : decode b_Players_isPresent 0 = .ok (.aload_n 0, 1) := by decide +kernel
theorem d_Players_isPresent_1 : decode b_Players_isPresent 1 = .ok (.getfield 34, 3) := by decide +kernel
theorem d_Players_isPresent_4 : decode b_Players_isPresent 4 = .ok (.iload_n 1, 1) := by decide +kernel
theorem d_Players_isPresent_5 : decode b_Players_isPresent 5 = .ok (.ishr, 1) := by decide +kernel
theorem d_Players_isPresent_6 : decode b_Players_isPresent 6 = .ok (.iconst 1, 1) := by decide +kernel
theorem d_Players_isPresent_7 : decode b_Players_isPresent 7 = .ok (.iand, 1) := by decide +kernel
theorem d_Players_isPresent_8 : decode b_Players_isPresent 8 = .ok (.ifCond .eq 7, 3) := by decide +kernel
theorem d_Players_isPresent_11 : decode b_Players_isPresent 11 = .ok (.iconst 1, 1) := by decide +kernel
theorem d_Players_isPresent_12 : decode b_Players_isPresent 12 = .ok (.goto 4, 3) := by decide +kernel
theorem d_Players_isPresent_15 : decode b_Players_isPresent 15 = .ok (.iconst 0, 1) := by decide +kernel
theorem d_Players_isPresent_16 : decode b_Players_isPresent 16 = .ok (.ireturn, 1) := by decide +kernel
theorem d_Players_compete_0 : decode b_Players_compete 0 = .ok (.aload_n 0, 1) := by decide +kernel
theorem d_Players_compete_1 : decode b_Players_compete 1 = .ok (.getfield 18, 3) := by decide +kernel
theorem d_Players_compete_4 : decode b_Players_compete 4 = .ok (.iload_n 1, 1) := by decide +kernel
theorem d_Players_compete_5 : decode b_Players_compete 5 = .ok (.iaload, 1) := by decide +kernel
theorem d_Players_compete_6 : decode b_Players_compete 6 = .ok (.sipush 1000, 3) := by decide +kernel
theorem d_Players_compete_9 : decode b_Players_compete 9 = .ok (.if_icmp .lt 5, 3) := by decide +kernel
theorem d_Players_compete_12 : decode b_Players_compete 12 = .ok (.iconst (-1), 1) := by decide +kernel
theorem d_Players_compete_13 : decode b_Players_compete 13 = .ok (.ireturn, 1) := by decide +kernel
theorem d_Players_compete_14 : decode b_Players_compete 14 = .ok (.aload_n 0, 1) := by decide +kernel
theorem d_Players_compete_15 : decode b_Players_compete 15 = .ok (.getfield 18, 3) := by decide +kernel
theorem d_Players_compete_18 : decode b_Players_compete 18 = .ok (.iload_n 1, 1) := by decide +kernel
theorem d_Players_compete_19 : decode b_Players_compete 19 = .ok (.dup2, 1) := by decide +kernel
theorem d_Players_compete_20 : decode b_Players_compete 20 = .ok (.iaload, 1) := by decide +kernel
theorem d_Players_compete_21 : decode b_Players_compete 21 = .ok (.iconst 1, 1) := by decide +kernel
theorem d_Players_compete_22 : decode b_Players_compete 22 = .ok (.iadd, 1) := by decide +kernel
theorem d_Players_compete_23 : decode b_Players_compete 23 = .ok (.iastore, 1) := by decide +kernel
theorem d_Players_compete_24 : decode b_Players_compete 24 = .ok (.aload_n 0, 1) := by decide +kernel
theorem d_Players_compete_25 : decode b_Players_compete 25 = .ok (.getfield 18, 3) := by decide +kernel
theorem d_Players_compete_28 : decode b_Players_compete 28 = .ok (.iload_n 1, 1) := by decide +kernel
theorem d_Players_compete_29 : decode b_Players_compete 29 = .ok (.iaload, 1) := by decide +kernel
theorem d_Players_compete_30 : decode b_Players_compete 30 = .ok (.ireturn, 1) := by decide +kernel
theorem d_Players_partCost_0 : decode b_Players_partCost 0 = .ok (.iconst (-1), 1) := by decide +kernel
theorem d_Players_partCost_1 : decode b_Players_partCost 1 = .ok (.istore 4, 2) := by decide +kernel
theorem d_Players_partCost_3 : decode b_Players_partCost 3 = .ok (.iconst 0, 1) := by decide +kernel
theorem d_Players_partCost_4 : decode b_Players_partCost 4 = .ok (.istore 5, 2) := by decide +kernel
theorem d_Players_partCost_6 : decode b_Players_partCost 6 = .ok (.iload 5, 2) := by decide +kernel
theorem d_Players_partCost_8 : decode b_Players_partCost 8 = .ok (.aload_n 2, 1) := by decide +kernel
theorem d_Players_partCost_9 : decode b_Players_partCost 9 = .ok (.getfield 37, 3) := by decide +kernel
theorem d_Players_partCost_12 : decode b_Players_partCost 12 = .ok (.iload_n 3, 1) := by decide +kernel
theorem d_Players_partCost_13 : decode b_Players_partCost 13 = .ok (.iaload, 1) := by decide +kernel
theorem d_Players_partCost_14 : decode b_Players_partCost 14 = .ok (.if_icmp .ge 46, 3) := by decide +kernel
