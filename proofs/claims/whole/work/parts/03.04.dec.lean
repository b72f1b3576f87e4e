theorem d_Band_init_75 : decode b_Band_init 75 = .ok (.invokespecial 53, 3) := by decide +kernel
theorem d_Band_init_78 : decode b_Band_init 78 = .ok (.putfield 54, 3) := by decide +kernel
theorem d_Band_init_81 : decode b_Band_init 81 = .ok (.aload_n 0, 1) := by decide +kernel
theorem d_Band_init_82 : decode b_Band_init 82 = .ok (.new 58, 3) := by decide +kernel
theorem d_Band_init_85 : decode b_Band_init 85 = .ok (.dup, 1) := by decide +kernel
theorem d_Band_init_86 : decode b_Band_init 86 = .ok (.invokespecial 60, 3) := by decide +kernel
theorem d_Band_init_89 : decode b_Band_init 89 = .ok (.putfield 61, 3) := by decide +kernel
theorem d_Band_init_92 : decode b_Band_init 92 = .ok (.return_, 1) := by decide +kernel
theorem d_Band_player_0 : decode b_Band_player 0 = .ok (.iload_n 1, 1) := by decide +kernel
theorem d_Band_player_1 : decode b_Band_player 1 = .ok (.iconst 0, 1) := by decide +kernel
theorem d_Band_player_2 : decode b_Band_player 2 = .ok (.bipush 99, 2) := by decide +kernel
theorem d_Band_player_4 : decode b_Band_player 4 = .ok (.invokestatic 65, 3) := by decide +kernel
theorem d_Band_player_7 : decode b_Band_player 7 = .ok (.ifCond .eq 10, 3) := by decide +kernel
theorem d_Band_player_10 : decode b_Band_player 10 = .ok (.iload_n 2, 1) := by decide +kernel
theorem d_Band_player_11 : decode b_Band_player 11 = .ok (.invokestatic 69, 3) := by decide +kernel
theorem d_Band_player_14 : decode b_Band_player 14 = .ok (.ifCond .ne 5, 3) := by decide +kernel
theorem d_Band_player_17 : decode b_Band_player 17 = .ok (.iconst (-1), 1) := by decide +kernel
theorem d_Band_player_18 : decode b_Band_player 18 = .ok (.ireturn, 1) := by decide +kernel
theorem d_Band_player_19 : decode b_Band_player 19 = .ok (.aload_n 0, 1) := by decide +kernel
theorem d_Band_player_20 : decode b_Band_player 20 = .ok (.getfield 12, 3) := by decide +kernel
theorem d_Band_player_23 : decode b_Band_player 23 = .ok (.iload_n 1, 1) := by decide +kernel
theorem d_Band_player_24 : decode b_Band_player 24 = .ok (.iload_n 2, 1) := by decide +kernel
theorem d_Band_player_25 : decode b_Band_player 25 = .ok (.invokevirtual 73, 3) := by decide +kernel
theorem d_Band_player_28 : decode b_Band_player 28 = .ok (.ireturn, 1) := by decide +kernel
theorem d_Band_plays_0 : decode b_Band_plays 0 = .ok (.aload_n 0, 1) := by decide +kernel
theorem d_Band_plays_1 : decode b_Band_plays 1 = .ok (.getfield 12, 3) := by decide +kernel
theorem d_Band_plays_4 : decode b_Band_plays 4 = .ok (.iload_n 1, 1) := by decide +kernel
theorem d_Band_plays_5 : decode b_Band_plays 5 = .ok (.invokevirtual 77, 3) := by decide +kernel
theorem d_Band_plays_8 : decode b_Band_plays 8 = .ok (.ifCond .eq 20, 3) := by decide +kernel
theorem d_Band_plays_11 : decode b_Band_plays 11 = .ok (.iload_n 2, 1) := by decide +kernel
theorem d_Band_plays_12 : decode b_Band_plays 12 = .ok (.invokestatic 80, 3) := by decide +kernel
theorem d_Band_plays_15 : decode b_Band_plays 15 = .ok (.ifCond .eq 13, 3) := by decide +kernel
theorem d_Band_plays_18 : decode b_Band_plays 18 = .ok (.iload_n 3, 1) := by decide +kernel
theorem d_Band_plays_19 : decode b_Band_plays 19 = .ok (.iconst (-1), 1) := by decide +kernel
theorem d_Band_plays_20 : decode b_Band_plays 20 = .ok (.bipush 9, 2) := by decide +kernel
theorem d_Band_plays_22 : decode b_Band_plays 22 = .ok (.invokestatic 65, 3) := by decide +kernel
theorem d_Band_plays_25 : decode b_Band_plays 25 = .ok (.ifCond .ne 5, 3) := by decide +kernel
theorem d_Band_plays_28 : decode b_Band_plays 28 = .ok (.iconst 0, 1) := by decide +kernel
theorem d_Band_plays_29 : decode b_Band_plays 29 = .ok (.ireturn, 1) := by decide +kernel
theorem d_Band_plays_30 : decode b_Band_plays 30 = .ok (.aload_n 0, 1) := by decide +kernel
theorem d_Band_plays_31 : decode b_Band_plays 31 = .ok (.getfield 12, 3) := by decide +kernel
theorem d_Band_plays_34 : decode b_Band_plays 34 = .ok (.iload_n 1, 1) := by decide +kernel
theorem d_Band_plays_35 : decode b_Band_plays 35 = .ok (.iload_n 2, 1) := by decide +kernel
theorem d_Band_plays_36 : decode b_Band_plays 36 = .ok (.iload_n 3, 1) := by decide +kernel
theorem d_Band_plays_37 : decode b_Band_plays 37 = .ok (.invokevirtual 83, 3) := by decide +kernel
theorem d_Band_plays_40 : decode b_Band_plays 40 = .ok (.iconst 1, 1) := by decide +kernel
theorem d_Band_plays_41 : decode b_Band_plays 41 = .ok (.ireturn, 1) := by decide +kernel
theorem d_Band_cost_0 : decode b_Band_cost 0 = .ok (.aload_n 0, 1) := by decide +kernel
theorem d_Band_cost_1 : decode b_Band_cost 1 = .ok (.getfield 12, 3) := by decide +kernel
theorem d_Band_cost_4 : decode b_Band_cost 4 = .ok (.iload_n 1, 1) := by decide +kernel
theorem d_Band_cost_5 : decode b_Band_cost 5 = .ok (.invokevirtual 77, 3) := by decide +kernel
theorem d_Band_cost_8 : decode b_Band_cost 8 = .ok (.ifCond .eq 10, 3) := by decide +kernel
theorem d_Band_cost_11 : decode b_Band_cost 11 = .ok (.iload_n 2, 1) := by decide +kernel
theorem d_Band_cost_12 : decode b_Band_cost 12 = .ok (.invokestatic 80, 3) := by decide +kernel
theorem d_Band_cost_15 : decode b_Band_cost 15 = .ok (.ifCond .ne 5, 3) := by decide +kernel
theorem d_Band_cost_18 : decode b_Band_cost 18 = .ok (.iconst (-1), 1) := by decide +kernel
theorem d_Band_cost_19 : decode b_Band_cost 19 = .ok (.ireturn, 1) := by decide +kernel
theorem d_Band_cost_20 : decode b_Band_cost 20 = .ok (.aload_n 0, 1) := by decide +kernel
theorem d_Band_cost_21 : decode b_Band_cost 21 = .ok (.getfield 12, 3) := by decide +kernel
theorem d_Band_cost_24 : decode b_Band_cost 24 = .ok (.iload_n 1, 1) := by decide +kernel
theorem d_Band_cost_25 : decode b_Band_cost 25 = .ok (.iload_n 2, 1) := by decide +kernel
theorem d_Band_cost_26 : decode b_Band_cost 26 = .ok (.invokevirtual 87, 3) := by decide +kernel
theorem d_Band_cost_29 : decode b_Band_cost 29 = .ok (.ireturn, 1) := by decide +kernel
theorem d_Band_here_0 : decode b_Band_here 0 = .ok (.aload_n 0, 1) := by decide +kernel
theorem d_Band_here_1 : decode b_Band_here 1 = .ok (.getfield 12, 3) := by decide +kernel
theorem d_Band_here_4 : decode b_Band_here 4 = .ok (.iload_n 1, 1) := by decide +kernel
theorem d_Band_here_5 : decode b_Band_here 5 = .ok (.invokevirtual 77, 3) := by decide +kernel
theorem d_Band_here_8 : decode b_Band_here 8 = .ok (.ifCond .ne 5, 3) := by decide +kernel
theorem d_Band_here_11 : decode b_Band_here 11 = .ok (.iconst 0, 1) := by decide +kernel
theorem d_Band_here_12 : decode b_Band_here 12 = .ok (.ireturn, 1) := by decide +kernel
theorem d_Band_here_13 : decode b_Band_here 13 = .ok (.aload_n 0, 1) := by decide +kernel
theorem d_Band_here_14 : decode b_Band_here 14 = .ok (.getfield 12, 3) := by decide +kernel
theorem d_Band_here_17 : decode b_Band_here 17 = .ok (.iload_n 1, 1) := by decide +kernel
theorem d_Band_here_18 : decode b_Band_here 18 = .ok (.iload_n 2, 1) := by decide +kernel
theorem d_Band_here_19 : decode b_Band_here 19 = .ok (.invokevirtual 90, 3) := by decide +kernel
theorem d_Band_here_22 : decode b_Band_here 22 = .ok (.iconst 1, 1) := by decide +kernel
theorem d_Band_here_23 : decode b_Band_here 23 = .ok (.ireturn, 1) := by decide +kernel
theorem d_Band_feed_0 : decode b_Band_feed 0 = .ok (.aload_n 0, 1) := by decide +kernel
theorem d_Band_feed_1 : decode b_Band_feed 1 = .ok (.getfield 26, 3) := by decide +kernel
theorem d_Band_feed_4 : decode b_Band_feed 4 = .ok (.invokevirtual 94, 3) := by decide +kernel
theorem d_Band_feed_7 : decode b_Band_feed 7 = .ok (.ifCond .ne 5, 3) := by decide +kernel
theorem d_Band_feed_10 : decode b_Band_feed 10 = .ok (.iconst (-1), 1) := by decide +kernel
theorem d_Band_feed_11 : decode b_Band_feed 11 = .ok (.ireturn, 1) := by decide +kernel
theorem d_Band_feed_12 : decode b_Band_feed 12 = .ok (.aload_n 0, 1) := by decide +kernel
theorem d_Band_feed_13 : decode b_Band_feed 13 = .ok (.getfield 26, 3) := by decide +kernel
theorem d_Band_feed_16 : decode b_Band_feed 16 = .ok (.iload_n 1, 1) := by decide +kernel
theorem d_Band_feed_17 : decode b_Band_feed 17 = .ok (.invokevirtual 98, 3) := by decide +kernel
theorem d_Band_feed_20 : decode b_Band_feed 20 = .ok (.aload_n 0, 1) := by decide +kernel
theorem d_Band_feed_21 : decode b_Band_feed 21 = .ok (.getfield 26, 3) := by decide +kernel
theorem d_Band_feed_24 : decode b_Band_feed 24 = .ok (.iload_n 2, 1) := by decide +kernel
theorem d_Band_feed_25 : decode b_Band_feed 25 = .ok (.invokevirtual 98, 3) := by decide +kernel
theorem d_Band_feed_28 : decode b_Band_feed 28 = .ok (.aload_n 0, 1) := by decide +kernel
theorem d_Band_feed_29 : decode b_Band_feed 29 = .ok (.getfield 26, 3) := by decide +kernel
theorem d_Band_feed_32 : decode b_Band_feed 32 = .ok (.iload_n 3, 1) := by decide +kernel
theorem d_Band_feed_33 : decode b_Band_feed 33 = .ok (.invokevirtual 98, 3) := by decide +kernel
theorem d_Band_feed_36 : decode b_Band_feed 36 = .ok (.aload_n 0, 1) := by decide +kernel
theorem d_Band_feed_37 : decode b_Band_feed 37 = .ok (.getfield 26, 3) := by decide +kernel
theorem d_Band_feed_40 : decode b_Band_feed 40 = .ok (.iload 4, 2) := by decide +kernel
theorem d_Band_feed_42 : decode b_Band_feed 42 = .ok (.invokevirtual 98, 3) := by decide +kernel
theorem d_Band_feed_45 : decode b_Band_feed 45 = .ok (.aload_n 0, 1) := by decide +kernel
theorem d_Band_feed_46 : decode b_Band_feed 46 = .ok (.getfield 26, 3) := by decide +kernel
theorem d_Band_feed_49 : decode b_Band_feed 49 = .ok (.iload 5, 2) := by decide +kernel
theorem d_Band_feed_51 : decode b_Band_feed 51 = .ok (.invokevirtual 98, 3) := by decide +kernel
theorem d_Band_feed_54 : decode b_Band_feed 54 = .ok (.aload_n 0, 1) := by decide +kernel
theorem d_Band_feed_55 : decode b_Band_feed 55 = .ok (.getfield 26, 3) := by decide +kernel
theorem d_Band_feed_58 : decode b_Band_feed 58 = .ok (.getfield 102, 3) := by decide +kernel
theorem d_Band_feed_61 : decode b_Band_feed 61 = .ok (.ireturn, 1) := by decide +kernel
theorem d_Band_end_0 : decode b_Band_end 0 = .ok (.iload_n 1, 1) := by decide +kernel
theorem d_Band_end_1 : decode b_Band_end 1 = .ok (.iconst 0, 1) := by decide +kernel
theorem d_Band_end_2 : decode b_Band_end 2 = .ok (.aload_n 0, 1) := by decide +kernel
theorem d_Band_end_3 : decode b_Band_end 3 = .ok (.getfield 26, 3) := by decide +kernel
theorem d_Band_end_6 : decode b_Band_end 6 = .ok (.getfield 102, 3) := by decide +kernel
theorem d_Band_end_9 : decode b_Band_end 9 = .ok (.invokestatic 65, 3) := by decide +kernel
theorem d_Band_end_12 : decode b_Band_end 12 = .ok (.ifCond .ne 5, 3) := by decide +kernel
theorem d_Band_end_15 : decode b_Band_end 15 = .ok (.iconst (-1), 1) := by decide +kernel
theorem d_Band_end_16 : decode b_Band_end 16 = .ok (.ireturn, 1) := by decide +kernel
theorem d_Band_end_17 : decode b_Band_end 17 = .ok (.aload_n 0, 1) := by decide +kernel
theorem d_Band_end_18 : decode b_Band_end 18 = .ok (.getfield 26, 3) := by decide +kernel
theorem d_Band_end_21 : decode b_Band_end 21 = .ok (.iload_n 1, 1) := by decide +kernel
theorem d_Band_end_22 : decode b_Band_end 22 = .ok (.putfield 102, 3) := by decide +kernel
theorem d_Band_end_25 : decode b_Band_end 25 = .ok (.iload_n 1, 1) := by decide +kernel
theorem d_Band_end_26 : decode b_Band_end 26 = .ok (.ireturn, 1) := by decide +kernel
theorem d_Band_load_0 : decode b_Band_load 0 = .ok (.aload_n 0, 1) := by decide +kernel
theorem d_Band_load_1 : decode b_Band_load 1 = .ok (.getfield 19, 3) := by decide +kernel
theorem d_Band_load_4 : decode b_Band_load 4 = .ok (.aload_n 0, 1) := by decide +kernel
theorem d_Band_load_5 : decode b_Band_load 5 = .ok (.getfield 26, 3) := by decide +kernel
theorem d_Band_load_8 : decode b_Band_load 8 = .ok (.invokevirtual 106, 3) := by decide +kernel
theorem d_Band_load_11 : decode b_Band_load 11 = .ok (.ifCond .eq 13, 3) := by decide +kernel
theorem d_Band_load_14 : decode b_Band_load 14 = .ok (.aload_n 0, 1) := by decide +kernel
theorem d_Band_load_15 : decode b_Band_load 15 = .ok (.getfield 19, 3) := by decide +kernel
theorem d_Band_load_18 : decode b_Band_load 18 = .ok (.getfield 110, 3) := by decide +kernel
theorem d_Band_load_21 : decode b_Band_load 21 = .ok (.goto 4, 3) := by decide +kernel
theorem d_Band_load_24 : decode b_Band_load 24 = .ok (.iconst (-1), 1) := by decide +kernel
theorem d_Band_load_25 : decode b_Band_load 25 = .ok (.ireturn, 1) := by decide +kernel
theorem d_Band_rule_0 : decode b_Band_rule 0 = .ok (.aload_n 0, 1) := by decide +kernel
theorem d_Band_rule_1 : decode b_Band_rule 1 = .ok (.getfield 33, 3) := by decide +kernel
theorem d_Band_rule_4 : decode b_Band_rule 4 = .ok (.invokevirtual 113, 3) := by decide +kernel
theorem d_Band_rule_7 : decode b_Band_rule 7 = .ok (.aload_n 0, 1) := by decide +kernel
theorem d_Band_rule_8 : decode b_Band_rule 8 = .ok (.getfield 26, 3) := by decide +kernel
theorem d_Band_rule_11 : decode b_Band_rule 11 = .ok (.iconst 4, 1) := by decide +kernel
theorem d_Band_rule_12 : decode b_Band_rule 12 = .ok (.invokevirtual 116, 3) := by decide +kernel
theorem d_Band_rule_15 : decode b_Band_rule 15 = .ok (.aload_n 0, 1) := by decide +kernel
theorem d_Band_rule_16 : decode b_Band_rule 16 = .ok (.getfield 33, 3) := by decide +kernel
theorem d_Band_rule_19 : decode b_Band_rule 19 = .ok (.aload_n 0, 1) := by decide +kernel
theorem d_Band_rule_20 : decode b_Band_rule 20 = .ok (.getfield 26, 3) := by decide +kernel
theorem d_Band_rule_23 : decode b_Band_rule 23 = .ok (.iconst 0, 1) := by decide +kernel
theorem d_Band_rule_24 : decode b_Band_rule 24 = .ok (.invokevirtual 119, 3) := by decide +kernel
theorem d_Band_rule_27 : decode b_Band_rule 27 = .ok (.aload_n 0, 1) := by decide +kernel
theorem d_Band_rule_28 : decode b_Band_rule 28 = .ok (.getfield 26, 3) := by decide +kernel
theorem d_Band_rule_31 : decode b_Band_rule 31 = .ok (.invokevirtual 123, 3) := by decide +kernel
theorem d_Band_rule_34 : decode b_Band_rule 34 = .ok (.ifCond .ne 5, 3) := by decide +kernel
theorem d_Band_rule_37 : decode b_Band_rule 37 = .ok (.iconst (-1), 1) := by decide +kernel
theorem d_Band_rule_38 : decode b_Band_rule 38 = .ok (.ireturn, 1) := by decide +kernel
theorem d_Band_rule_39 : decode b_Band_rule 39 = .ok (.aload_n 0, 1) := by decide +kernel
theorem d_Band_rule_40 : decode b_Band_rule 40 = .ok (.getfield 33, 3) := by decide +kernel
theorem d_Band_rule_43 : decode b_Band_rule 43 = .ok (.invokevirtual 126, 3) := by decide +kernel
theorem d_Band_rule_46 : decode b_Band_rule 46 = .ok (.aload_n 0, 1) := by decide +kernel
theorem d_Band_rule_47 : decode b_Band_rule 47 = .ok (.getfield 26, 3) := by decide +kernel
theorem d_Band_rule_50 : decode b_Band_rule 50 = .ok (.getfield 129, 3) := by decide +kernel
theorem d_Band_rule_53 : decode b_Band_rule 53 = .ok (.ireturn, 1) := by decide +kernel
theorem d_Band_fault_0 : decode b_Band_fault 0 = .ok (.iload_n 1, 1) := by decide +kernel
theorem d_Band_fault_1 : decode b_Band_fault 1 = .ok (.lookupswitch 43 #[(0, 27), (1, 35)], 27) := by decide +kernel
theorem d_Band_fault_28 : decode b_Band_fault 28 = .ok (.aload_n 0, 1) := by decide +kernel
theorem d_Band_fault_29 : decode b_Band_fault 29 = .ok (.getfield 26, 3) := by decide +kernel
theorem d_Band_fault_32 : decode b_Band_fault 32 = .ok (.getfield 132, 3) := by decide +kernel
theorem d_Band_fault_35 : decode b_Band_fault 35 = .ok (.ireturn, 1) := by decide +kernel
theorem d_Band_fault_36 : decode b_Band_fault 36 = .ok (.aload_n 0, 1) := by decide +kernel
theorem d_Band_fault_37 : decode b_Band_fault 37 = .ok (.getfield 26, 3) := by decide +kernel
theorem d_Band_fault_40 : decode b_Band_fault 40 = .ok (.getfield 135, 3) := by decide +kernel
theorem d_Band_fault_43 : decode b_Band_fault 43 = .ok (.ireturn, 1) := by decide +kernel
theorem d_Band_fault_44 : decode b_Band_fault 44 = .ok (.iconst (-1), 1) := by decide +kernel
theorem d_Band_fault_45 : decode b_Band_fault 45 = .ok (.ireturn, 1) := by decide +kernel
theorem d_Band_piece_0 : decode b_Band_piece 0 = .ok (.aload_n 0, 1) := by decide +kernel
theorem d_Band_piece_1 : decode b_Band_piece 1 = .ok (.getfield 19, 3) := by decide +kernel
theorem d_Band_piece_4 : decode b_Band_piece 4 = .ok (.iload_n 1, 1) := by decide +kernel
theorem d_Band_piece_5 : decode b_Band_piece 5 = .ok (.invokevirtual 138, 3) := by decide +kernel
theorem d_Band_piece_8 : decode b_Band_piece 8 = .ok (.astore_n 3, 1) := by decide +kernel
theorem d_Band_piece_9 : decode b_Band_piece 9 = .ok (.aload_n 3, 1) := by decide +kernel
theorem d_Band_piece_10 : decode b_Band_piece 10 = .ok (.ifnonnull 7, 3) := by decide +kernel
theorem d_Band_piece_13 : decode b_Band_piece 13 = .ok (.iconst (-1), 1) := by decide +kernel
theorem d_Band_piece_14 : decode b_Band_piece 14 = .ok (.goto 8, 3) := by decide +kernel
theorem d_Band_piece_17 : decode b_Band_piece 17 = .ok (.aload_n 3, 1) := by decide +kernel
theorem d_Band_piece_18 : decode b_Band_piece 18 = .ok (.iload_n 2, 1) := by decide +kernel
theorem d_Band_piece_19 : decode b_Band_piece 19 = .ok (.invokevirtual 142, 3) := by decide +kernel
theorem d_Band_piece_22 : decode b_Band_piece 22 = .ok (.ireturn, 1) := by decide +kernel
theorem d_Band_playable_0 : decode b_Band_playable 0 = .ok (.aload_n 0, 1) := by decide +kernel
theorem d_Band_playable_1 : decode b_Band_playable 1 = .ok (.getfield 19, 3) := by decide +kernel
theorem d_Band_playable_4 : decode b_Band_playable 4 = .ok (.iload_n 1, 1) := by decide +kernel
theorem d_Band_playable_5 : decode b_Band_playable 5 = .ok (.invokevirtual 138, 3) := by decide +kernel
theorem d_Band_playable_8 : decode b_Band_playable 8 = .ok (.astore_n 2, 1) := by decide +kernel
theorem d_Band_playable_9 : decode b_Band_playable 9 = .ok (.aload_n 2, 1) := by decide +kernel
theorem d_Band_playable_10 : decode b_Band_playable 10 = .ok (.ifnonnull 5, 3) := by decide +kernel
theorem d_Band_playable_13 : decode b_Band_playable 13 = .ok (.iconst (-1), 1) := by decide +kernel
theorem d_Band_playable_14 : decode b_Band_playable 14 = .ok (.ireturn, 1) := by decide +kernel
theorem d_Band_playable_15 : decode b_Band_playable 15 = .ok (.aload_n 0, 1) := by decide +kernel
theorem d_Band_playable_16 : decode b_Band_playable 16 = .ok (.getfield 47, 3) := by decide +kernel
theorem d_Band_playable_19 : decode b_Band_playable 19 = .ok (.aload_n 2, 1) := by decide +kernel
theorem d_Band_playable_20 : decode b_Band_playable 20 = .ok (.aload_n 0, 1) := by decide +kernel
theorem d_Band_playable_21 : decode b_Band_playable 21 = .ok (.getfield 12, 3) := by decide +kernel
theorem d_Band_playable_24 : decode b_Band_playable 24 = .ok (.invokevirtual 148, 3) := by decide +kernel
theorem d_Band_playable_27 : decode b_Band_playable 27 = .ok (.ifCond .eq 7, 3) := by decide +kernel
theorem d_Band_playable_30 : decode b_Band_playable 30 = .ok (.iconst 1, 1) := by decide +kernel
theorem d_Band_playable_31 : decode b_Band_playable 31 = .ok (.goto 4, 3) := by decide +kernel
theorem d_Band_playable_34 : decode b_Band_playable 34 = .ok (.iconst 0, 1) := by decide +kernel
theorem d_Band_playable_35 : decode b_Band_playable 35 = .ok (.ireturn, 1) := by decide +kernel
theorem d_Band_lacks_0 : decode b_Band_lacks 0 = .ok (.aload_n 0, 1) := by decide +kernel
theorem d_Band_lacks_1 : decode b_Band_lacks 1 = .ok (.getfield 19, 3) := by decide +kernel
theorem d_Band_lacks_4 : decode b_Band_lacks 4 = .ok (.iload_n 1, 1) := by decide +kernel
theorem d_Band_lacks_5 : decode b_Band_lacks 5 = .ok (.invokevirtual 138, 3) := by decide +kernel
theorem d_Band_lacks_8 : decode b_Band_lacks 8 = .ok (.astore_n 2, 1) := by decide +kernel
theorem d_Band_lacks_9 : decode b_Band_lacks 9 = .ok (.aload_n 2, 1) := by decide +kernel
theorem d_Band_lacks_10 : decode b_Band_lacks 10 = .ok (.ifnonnull 7, 3) := by decide +kernel
theorem d_Band_lacks_13 : decode b_Band_lacks 13 = .ok (.iconst (-1), 1) := by decide +kernel
theorem d_Band_lacks_14 : decode b_Band_lacks 14 = .ok (.goto 15, 3) := by decide +kernel
theorem d_Band_lacks_17 : decode b_Band_lacks 17 = .ok (.aload_n 0, 1) := by decide +kernel
theorem d_Band_lacks_18 : decode b_Band_lacks 18 = .ok (.getfield 47, 3) := by decide +kernel
theorem d_Band_lacks_21 : decode b_Band_lacks 21 = .ok (.aload_n 2, 1) := by decide +kernel
theorem d_Band_lacks_22 : decode b_Band_lacks 22 = .ok (.aload_n 0, 1) := by decide +kernel
theorem d_Band_lacks_23 : decode b_Band_lacks 23 = .ok (.getfield 12, 3) := by decide +kernel
theorem d_Band_lacks_26 : decode b_Band_lacks 26 = .ok (.invokevirtual 152, 3) := by decide +kernel
theorem d_Band_lacks_29 : decode b_Band_lacks 29 = .ok (.ireturn, 1) := by decide +kernel
theorem d_Band_seat_0 : decode b_Band_seat 0 = .ok (.aload_n 0, 1) := by decide +kernel
theorem d_Band_seat_1 : decode b_Band_seat 1 = .ok (.getfield 19, 3) := by decide +kernel
theorem d_Band_seat_4 : decode b_Band_seat 4 = .ok (.iload_n 1, 1) := by decide +kernel
theorem d_Band_seat_5 : decode b_Band_seat 5 = .ok (.invokevirtual 138, 3) := by decide +kernel
theorem d_Band_seat_8 : decode b_Band_seat 8 = .ok (.astore_n 2, 1) := by decide +kernel
theorem d_Band_seat_9 : decode b_Band_seat 9 = .ok (.aload_n 2, 1) := by decide +kernel
theorem d_Band_seat_10 : decode b_Band_seat 10 = .ok (.ifnull 18, 3) := by decide +kernel
theorem d_Band_seat_13 : decode b_Band_seat 13 = .ok (.aload_n 0, 1) := by decide +kernel
theorem d_Band_seat_14 : decode b_Band_seat 14 = .ok (.getfield 47, 3) := by decide +kernel
theorem d_Band_seat_17 : decode b_Band_seat 17 = .ok (.aload_n 2, 1) := by decide +kernel
theorem d_Band_seat_18 : decode b_Band_seat 18 = .ok (.aload_n 0, 1) := by decide +kernel
theorem d_Band_seat_19 : decode b_Band_seat 19 = .ok (.getfield 12, 3) := by decide +kernel
theorem d_Band_seat_22 : decode b_Band_seat 22 = .ok (.invokevirtual 148, 3) := by decide +kernel
theorem d_Band_seat_25 : decode b_Band_seat 25 = .ok (.ifCond .ne 5, 3) := by decide +kernel
theorem d_Band_seat_28 : decode b_Band_seat 28 = .ok (.iconst (-1), 1) := by decide +kernel
theorem d_Band_seat_29 : decode b_Band_seat 29 = .ok (.ireturn, 1) := by decide +kernel
theorem d_Band_seat_30 : decode b_Band_seat 30 = .ok (.aload_n 0, 1) := by decide +kernel
theorem d_Band_seat_31 : decode b_Band_seat 31 = .ok (.getfield 54, 3) := by decide +kernel
theorem d_Band_seat_34 : decode b_Band_seat 34 = .ok (.aload_n 2, 1) := by decide +kernel
theorem d_Band_seat_35 : decode b_Band_seat 35 = .ok (.aload_n 0, 1) := by decide +kernel
theorem d_Band_seat_36 : decode b_Band_seat 36 = .ok (.getfield 12, 3) := by decide +kernel
theorem d_Band_seat_39 : decode b_Band_seat 39 = .ok (.invokevirtual 156, 3) := by decide +kernel
theorem d_Band_seat_42 : decode b_Band_seat 42 = .ok (.aload_n 2, 1) := by decide +kernel
theorem d_Band_seat_43 : decode b_Band_seat 43 = .ok (.invokevirtual 160, 3) := by decide +kernel
theorem d_Band_seat_46 : decode b_Band_seat 46 = .ok (.ireturn, 1) := by decide +kernel
theorem d_Band_again_0 : decode b_Band_again 0 = .ok (.aload_n 0, 1) := by decide +kernel
theorem d_Band_again_1 : decode b_Band_again 1 = .ok (.getfield 19, 3) := by decide +kernel
theorem d_Band_again_4 : decode b_Band_again 4 = .ok (.iload_n 1, 1) := by decide +kernel
theorem d_Band_again_5 : decode b_Band_again 5 = .ok (.invokevirtual 138, 3) := by decide +kernel
theorem d_Band_again_8 : decode b_Band_again 8 = .ok (.astore_n 2, 1) := by decide +kernel
theorem d_Band_again_9 : decode b_Band_again 9 = .ok (.aload_n 2, 1) := by decide +kernel
theorem d_Band_again_10 : decode b_Band_again 10 = .ok (.ifnull 18, 3) := by decide +kernel
theorem d_Band_again_13 : decode b_Band_again 13 = .ok (.aload_n 0, 1) := by decide +kernel
theorem d_Band_again_14 : decode b_Band_again 14 = .ok (.getfield 47, 3) := by decide +kernel
theorem d_Band_again_17 : decode b_Band_again 17 = .ok (.aload_n 2, 1) := by decide +kernel
theorem d_Band_again_18 : decode b_Band_again 18 = .ok (.aload_n 0, 1) := by decide +kernel
theorem d_Band_again_19 : decode b_Band_again 19 = .ok (.getfield 12, 3) := by decide +kernel
theorem d_Band_again_22 : decode b_Band_again 22 = .ok (.invokevirtual 148, 3) := by decide +kernel
theorem d_Band_again_25 : decode b_Band_again 25 = .ok (.ifCond .ne 5, 3) := by decide +kernel
theorem d_Band_again_28 : decode b_Band_again 28 = .ok (.iconst (-1), 1) := by decide +kernel
theorem d_Band_again_29 : decode b_Band_again 29 = .ok (.ireturn, 1) := by decide +kernel
theorem d_Band_again_30 : decode b_Band_again 30 = .ok (.aload_n 0, 1) := by decide +kernel
theorem d_Band_again_31 : decode b_Band_again 31 = .ok (.getfield 54, 3) := by decide +kernel
theorem d_Band_again_34 : decode b_Band_again 34 = .ok (.aload_n 2, 1) := by decide +kernel
theorem d_Band_again_35 : decode b_Band_again 35 = .ok (.aload_n 0, 1) := by decide +kernel
theorem d_Band_again_36 : decode b_Band_again 36 = .ok (.getfield 12, 3) := by decide +kernel
theorem d_Band_again_39 : decode b_Band_again 39 = .ok (.invokevirtual 164, 3) := by decide +kernel
theorem d_Band_again_42 : decode b_Band_again 42 = .ok (.ireturn, 1) := by decide +kernel
theorem d_Band_chair_0 : decode b_Band_chair 0 = .ok (.aload_n 0, 1) := by decide +kernel
theorem d_Band_chair_1 : decode b_Band_chair 1 = .ok (.getfield 19, 3) := by decide +kernel
theorem d_Band_chair_4 : decode b_Band_chair 4 = .ok (.iload_n 1, 1) := by decide +kernel
theorem d_Band_chair_5 : decode b_Band_chair 5 = .ok (.invokevirtual 138, 3) := by decide +kernel
theorem d_Band_chair_8 : decode b_Band_chair 8 = .ok (.astore_n 3, 1) := by decide +kernel
theorem d_Band_chair_9 : decode b_Band_chair 9 = .ok (.aload_n 3, 1) := by decide +kernel
theorem d_Band_chair_10 : decode b_Band_chair 10 = .ok (.ifnull 11, 3) := by decide +kernel
theorem d_Band_chair_13 : decode b_Band_chair 13 = .ok (.aload_n 3, 1) := by decide +kernel
theorem d_Band_chair_14 : decode b_Band_chair 14 = .ok (.iload_n 2, 1) := by decide +kernel
theorem d_Band_chair_15 : decode b_Band_chair 15 = .ok (.invokevirtual 167, 3) := by decide +kernel
theorem d_Band_chair_18 : decode b_Band_chair 18 = .ok (.ifCond .ne 5, 3) := by decide +kernel
theorem d_Band_chair_21 : decode b_Band_chair 21 = .ok (.iconst (-1), 1) := by decide +kernel
theorem d_Band_chair_22 : decode b_Band_chair 22 = .ok (.ireturn, 1) := by decide +kernel
theorem d_Band_chair_23 : decode b_Band_chair 23 = .ok (.aload_n 3, 1) := by decide +kernel
theorem d_Band_chair_24 : decode b_Band_chair 24 = .ok (.getfield 170, 3) := by decide +kernel
theorem d_Band_chair_27 : decode b_Band_chair 27 = .ok (.iload_n 2, 1) := by decide +kernel
theorem d_Band_chair_28 : decode b_Band_chair 28 = .ok (.iaload, 1) := by decide +kernel
theorem d_Band_chair_29 : decode b_Band_chair 29 = .ok (.ireturn, 1) := by decide +kernel
theorem d_Band_sit_0 : decode b_Band_sit 0 = .ok (.aload_n 0, 1) := by decide +kernel
theorem d_Band_sit_1 : decode b_Band_sit 1 = .ok (.getfield 19, 3) := by decide +kernel
theorem d_Band_sit_4 : decode b_Band_sit 4 = .ok (.iload_n 1, 1) := by decide +kernel
theorem d_Band_sit_5 : decode b_Band_sit 5 = .ok (.invokevirtual 138, 3) := by decide +kernel
theorem d_Band_sit_8 : decode b_Band_sit 8 = .ok (.astore 4, 2) := by decide +kernel
theorem d_Band_sit_10 : decode b_Band_sit 10 = .ok (.aload 4, 2) := by decide +kernel
theorem d_Band_sit_12 : decode b_Band_sit 12 = .ok (.ifnull 12, 3) := by decide +kernel
theorem d_Band_sit_15 : decode b_Band_sit 15 = .ok (.aload 4, 2) := by decide +kernel
theorem d_Band_sit_17 : decode b_Band_sit 17 = .ok (.iload_n 2, 1) := by decide +kernel
theorem d_Band_sit_18 : decode b_Band_sit 18 = .ok (.invokevirtual 167, 3) := by decide +kernel
theorem d_Band_sit_21 : decode b_Band_sit 21 = .ok (.ifCond .ne 5, 3) := by decide +kernel
theorem d_Band_sit_24 : decode b_Band_sit 24 = .ok (.iconst 0, 1) := by decide +kernel
theorem d_Band_sit_25 : decode b_Band_sit 25 = .ok (.ireturn, 1) := by decide +kernel
theorem d_Band_sit_26 : decode b_Band_sit 26 = .ok (.iload_n 3, 1) := by decide +kernel
theorem d_Band_sit_27 : decode b_Band_sit 27 = .ok (.iconst (-1), 1) := by decide +kernel
theorem d_Band_sit_28 : decode b_Band_sit 28 = .ok (.if_icmp .eq 41, 3) := by decide +kernel
theorem d_Band_sit_31 : decode b_Band_sit 31 = .ok (.aload_n 0, 1) := by decide +kernel
theorem d_Band_sit_32 : decode b_Band_sit 32 = .ok (.getfield 12, 3) := by decide +kernel
theorem d_Band_sit_35 : decode b_Band_sit 35 = .ok (.iload_n 3, 1) := by decide +kernel
theorem d_Band_sit_36 : decode b_Band_sit 36 = .ok (.invokevirtual 77, 3) := by decide +kernel
theorem d_Band_sit_39 : decode b_Band_sit 39 = .ok (.ifCond .eq 28, 3) := by decide +kernel
theorem d_Band_sit_42 : decode b_Band_sit 42 = .ok (.aload_n 0, 1) := by decide +kernel
theorem d_Band_sit_43 : decode b_Band_sit 43 = .ok (.getfield 12, 3) := by decide +kernel
theorem d_Band_sit_46 : decode b_Band_sit 46 = .ok (.iload_n 3, 1) := by decide +kernel
theorem d_Band_sit_47 : decode b_Band_sit 47 = .ok (.aload 4, 2) := by decide +kernel
theorem d_Band_sit_49 : decode b_Band_sit 49 = .ok (.iload_n 2, 1) := by decide +kernel
theorem d_Band_sit_50 : decode b_Band_sit 50 = .ok (.invokevirtual 174, 3) := by decide +kernel
theorem d_Band_sit_53 : decode b_Band_sit 53 = .ok (.iconst (-1), 1) := by decide +kernel
theorem d_Band_sit_54 : decode b_Band_sit 54 = .ok (.if_icmp .eq 13, 3) := by decide +kernel
theorem d_Band_sit_57 : decode b_Band_sit 57 = .ok (.aload 4, 2) := by decide +kernel
theorem d_Band_sit_59 : decode b_Band_sit 59 = .ok (.iload_n 3, 1) := by decide +kernel
theorem d_Band_sit_60 : decode b_Band_sit 60 = .ok (.iload_n 2, 1) := by decide +kernel
theorem d_Band_sit_61 : decode b_Band_sit 61 = .ok (.invokevirtual 178, 3) := by decide +kernel
theorem d_Band_sit_64 : decode b_Band_sit 64 = .ok (.ifCond .eq 5, 3) := by decide +kernel
theorem d_Band_sit_67 : decode b_Band_sit 67 = .ok (.iconst 0, 1) := by decide +kernel
theorem d_Band_sit_68 : decode b_Band_sit 68 = .ok (.ireturn, 1) := by decide +kernel
theorem d_Band_sit_69 : decode b_Band_sit 69 = .ok (.aload 4, 2) := by decide +kernel
theorem d_Band_sit_71 : decode b_Band_sit 71 = .ok (.getfield 170, 3) := by decide +kernel
theorem d_Band_sit_74 : decode b_Band_sit 74 = .ok (.iload_n 2, 1) := by decide +kernel
theorem d_Band_sit_75 : decode b_Band_sit 75 = .ok (.iload_n 3, 1) := by decide +kernel
theorem d_Band_sit_76 : decode b_Band_sit 76 = .ok (.iastore, 1) := by decide +kernel
theorem d_Band_sit_77 : decode b_Band_sit 77 = .ok (.iconst 1, 1) := by decide +kernel
theorem d_Band_sit_78 : decode b_Band_sit 78 = .ok (.ireturn, 1) := by decide +kernel
theorem d_Band_seating_0 : decode b_Band_seating 0 = .ok (.aload_n 0, 1) := by decide +kernel
theorem d_Band_seating_1 : decode b_Band_seating 1 = .ok (.getfield 19, 3) := by decide +kernel
theorem d_Band_seating_4 : decode b_Band_seating 4 = .ok (.iload_n 1, 1) := by decide +kernel
theorem d_Band_seating_5 : decode b_Band_seating 5 = .ok (.invokevirtual 138, 3) := by decide +kernel
theorem d_Band_seating_8 : decode b_Band_seating 8 = .ok (.astore_n 3, 1) := by decide +kernel
theorem d_Band_seating_9 : decode b_Band_seating 9 = .ok (.aload_n 3, 1) := by decide +kernel
theorem d_Band_seating_10 : decode b_Band_seating 10 = .ok (.ifnonnull 5, 3) := by decide +kernel
theorem d_Band_seating_13 : decode b_Band_seating 13 = .ok (.iconst (-1), 1) := by decide +kernel
theorem d_Band_seating_14 : decode b_Band_seating 14 = .ok (.ireturn, 1) := by decide +kernel
theorem d_Band_seating_15 : decode b_Band_seating 15 = .ok (.iload_n 2, 1) := by decide +kernel
theorem d_Band_seating_16 : decode b_Band_seating 16 = .ok (.tableswitch 51 0 2 #[28, 37, 42], 28) := by decide +kernel
theorem d_Band_seating_44 : decode b_Band_seating 44 = .ok (.aload_n 0, 1) := by decide +kernel
theorem d_Band_seating_45 : decode b_Band_seating 45 = .ok (.getfield 12, 3) := by decide +kernel
theorem d_Band_seating_48 : decode b_Band_seating 48 = .ok (.aload_n 3, 1) := by decide +kernel
theorem d_Band_seating_49 : decode b_Band_seating 49 = .ok (.invokevirtual 182, 3) := by decide +kernel
theorem d_Band_seating_52 : decode b_Band_seating 52 = .ok (.ireturn, 1) := by decide +kernel
theorem d_Band_seating_53 : decode b_Band_seating 53 = .ok (.aload_n 3, 1) := by decide +kernel
theorem d_Band_seating_54 : decode b_Band_seating 54 = .ok (.invokevirtual 160, 3) := by decide +kernel
theorem d_Band_seating_57 : decode b_Band_seating 57 = .ok (.ireturn, 1) := by decide +kernel
theorem d_Band_seating_58 : decode b_Band_seating 58 = .ok (.aload_n 0, 1) := by decide +kernel
theorem d_Band_seating_59 : decode b_Band_seating 59 = .ok (.getfield 12, 3) := by decide +kernel
theorem d_Band_seating_62 : decode b_Band_seating 62 = .ok (.aload_n 3, 1) := by decide +kernel
theorem d_Band_seating_63 : decode b_Band_seating 63 = .ok (.invokevirtual 186, 3) := by decide +kernel
theorem d_Band_seating_66 : decode b_Band_seating 66 = .ok (.ireturn, 1) := by decide +kernel
theorem d_Band_seating_67 : decode b_Band_seating 67 = .ok (.iconst (-1), 1) := by decide +kernel
theorem d_Band_seating_68 : decode b_Band_seating 68 = .ok (.ireturn, 1) := by decide +kernel
theorem d_Band_programme_0 : decode b_Band_programme 0 = .ok (.iload_n 1, 1) := by decide +kernel
theorem d_Band_programme_1 : decode b_Band_programme 1 = .ok (.iconst 0, 1) := by decide +kernel
theorem d_Band_programme_2 : decode b_Band_programme 2 = .ok (.sipush 600, 3) := by decide +kernel
theorem d_Band_programme_5 : decode b_Band_programme 5 = .ok (.invokestatic 65, 3) := by decide +kernel
theorem d_Band_programme_8 : decode b_Band_programme 8 = .ok (.ifCond .eq 13, 3) := by decide +kernel
theorem d_Band_programme_11 : decode b_Band_programme 11 = .ok (.iload_n 2, 1) := by decide +kernel
theorem d_Band_programme_12 : decode b_Band_programme 12 = .ok (.iconst 0, 1) := by decide +kernel
theorem d_Band_programme_13 : decode b_Band_programme 13 = .ok (.bipush 18, 2) := by decide +kernel
theorem d_Band_programme_15 : decode b_Band_programme 15 = .ok (.invokestatic 65, 3) := by decide +kernel
theorem d_Band_programme_18 : decode b_Band_programme 18 = .ok (.ifCond .ne 5, 3) := by decide +kernel
theorem d_Band_programme_21 : decode b_Band_programme 21 = .ok (.iconst (-1), 1) := by decide +kernel
theorem d_Band_programme_22 : decode b_Band_programme 22 = .ok (.ireturn, 1) := by decide +kernel
theorem d_Band_programme_23 : decode b_Band_programme 23 = .ok (.aload_n 0, 1) := by decide +kernel
theorem d_Band_programme_24 : decode b_Band_programme 24 = .ok (.getfield 61, 3) := by decide +kernel
theorem d_Band_programme_27 : decode b_Band_programme 27 = .ok (.invokevirtual 189, 3) := by decide +kernel
theorem d_Band_programme_30 : decode b_Band_programme 30 = .ok (.iconst 0, 1) := by decide +kernel
theorem d_Band_programme_31 : decode b_Band_programme 31 = .ok (.istore_n 3, 1) := by decide +kernel
theorem d_Band_programme_32 : decode b_Band_programme 32 = .ok (.iload_n 3, 1) := by decide +kernel
theorem d_Band_programme_33 : decode b_Band_programme 33 = .ok (.aload_n 0, 1) := by decide +kernel
theorem d_Band_programme_34 : decode b_Band_programme 34 = .ok (.getfield 19, 3) := by decide +kernel
theorem d_Band_programme_37 : decode b_Band_programme 37 = .ok (.getfield 110, 3) := by decide +kernel
theorem d_Band_programme_40 : decode b_Band_programme 40 = .ok (.if_icmp .ge 50, 3) := by decide +kernel
theorem d_Band_programme_43 : decode b_Band_programme 43 = .ok (.aload_n 0, 1) := by decide +kernel
theorem d_Band_programme_44 : decode b_Band_programme 44 = .ok (.getfield 19, 3) := by decide +kernel
theorem d_Band_programme_47 : decode b_Band_programme 47 = .ok (.iload_n 3, 1) := by decide +kernel
theorem d_Band_programme_48 : decode b_Band_programme 48 = .ok (.invokevirtual 138, 3) := by decide +kernel
theorem d_Band_programme_51 : decode b_Band_programme 51 = .ok (.astore 4, 2) := by decide +kernel
theorem d_Band_programme_53 : decode b_Band_programme 53 = .ok (.aload 4, 2) := by decide +kernel
theorem d_Band_programme_55 : decode b_Band_programme 55 = .ok (.ifnull 29, 3) := by decide +kernel
theorem d_Band_programme_58 : decode b_Band_programme 58 = .ok (.aload_n 0, 1) := by decide +kernel
theorem d_Band_programme_59 : decode b_Band_programme 59 = .ok (.getfield 47, 3) := by decide +kernel
theorem d_Band_programme_62 : decode b_Band_programme 62 = .ok (.aload 4, 2) := by decide +kernel
theorem d_Band_programme_64 : decode b_Band_programme 64 = .ok (.aload_n 0, 1) := by decide +kernel
theorem d_Band_programme_65 : decode b_Band_programme 65 = .ok (.getfield 12, 3) := by decide +kernel
theorem d_Band_programme_68 : decode b_Band_programme 68 = .ok (.invokevirtual 148, 3) := by decide +kernel
theorem d_Band_programme_71 : decode b_Band_programme 71 = .ok (.ifCond .eq 13, 3) := by decide +kernel
theorem d_Band_programme_74 : decode b_Band_programme 74 = .ok (.aload_n 0, 1) := by decide +kernel
theorem d_Band_programme_75 : decode b_Band_programme 75 = .ok (.getfield 61, 3) := by decide +kernel
theorem d_Band_programme_78 : decode b_Band_programme 78 = .ok (.iload_n 3, 1) := by decide +kernel
theorem d_Band_programme_79 : decode b_Band_programme 79 = .ok (.aload 4, 2) := by decide +kernel
theorem d_Band_programme_81 : decode b_Band_programme 81 = .ok (.invokevirtual 192, 3) := by decide +kernel
theorem d_Band_programme_84 : decode b_Band_programme 84 = .ok (.iinc 3 1, 3) := by decide +kernel
theorem d_Band_programme_87 : decode b_Band_programme 87 = .ok (.goto (-55), 3) := by decide +kernel
theorem d_Band_programme_90 : decode b_Band_programme 90 = .ok (.aload_n 0, 1) := by decide +kernel
theorem d_Band_programme_91 : decode b_Band_programme 91 = .ok (.getfield 61, 3) := by decide +kernel
theorem d_Band_programme_94 : decode b_Band_programme 94 = .ok (.iload_n 1, 1) := by decide +kernel
theorem d_Band_programme_95 : decode b_Band_programme 95 = .ok (.iload_n 2, 1) := by decide +kernel
theorem d_Band_programme_96 : decode b_Band_programme 96 = .ok (.invokevirtual 196, 3) := by decide +kernel
theorem d_Band_programme_99 : decode b_Band_programme 99 = .ok (.ireturn, 1) := by decide +kernel
theorem d_Band_plan_0 : decode b_Band_plan 0 = .ok (.iload_n 1, 1) := by decide +kernel
theorem d_Band_plan_1 : decode b_Band_plan 1 = .ok (.iconst 0, 1) := by decide +kernel
theorem d_Band_plan_2 : decode b_Band_plan 2 = .ok (.aload_n 0, 1) := by decide +kernel
theorem d_Band_plan_3 : decode b_Band_plan 3 = .ok (.getfield 61, 3) := by decide +kernel
theorem d_Band_plan_6 : decode b_Band_plan 6 = .ok (.getfield 199, 3) := by decide +kernel
theorem d_Band_plan_9 : decode b_Band_plan 9 = .ok (.iconst 1, 1) := by decide +kernel
theorem d_Band_plan_10 : decode b_Band_plan 10 = .ok (.isub, 1) := by decide +kernel
theorem d_Band_plan_11 : decode b_Band_plan 11 = .ok (.invokestatic 65, 3) := by decide +kernel
theorem d_Band_plan_14 : decode b_Band_plan 14 = .ok (.ifCond .eq 15, 3) := by decide +kernel
theorem d_Band_plan_17 : decode b_Band_plan 17 = .ok (.aload_n 0, 1) := by decide +kernel
theorem d_Band_plan_18 : decode b_Band_plan 18 = .ok (.getfield 61, 3) := by decide +kernel
theorem d_Band_plan_21 : decode b_Band_plan 21 = .ok (.getfield 202, 3) := by decide +kernel
theorem d_Band_plan_24 : decode b_Band_plan 24 = .ok (.iload_n 1, 1) := by decide +kernel
theorem d_Band_plan_25 : decode b_Band_plan 25 = .ok (.iaload, 1) := by decide +kernel
theorem d_Band_plan_26 : decode b_Band_plan 26 = .ok (.goto 4, 3) := by decide +kernel
theorem d_Band_plan_29 : decode b_Band_plan 29 = .ok (.iconst (-1), 1) := by decide +kernel
theorem d_Band_plan_30 : decode b_Band_plan 30 = .ok (.ireturn, 1) := by decide +kernel
theorem d_Band_strain_0 : decode b_Band_strain 0 = .ok (.aload_n 0, 1) := by decide +kernel
theorem d_Band_strain_1 : decode b_Band_strain 1 = .ok (.getfield 61, 3) := by decide +kernel
theorem d_Band_strain_4 : decode b_Band_strain 4 = .ok (.getfield 205, 3) := by decide +kernel
theorem d_Band_strain_7 : decode b_Band_strain 7 = .ok (.ireturn, 1) := by decide +kernel
theorem d_Band_tell_0 : decode b_Band_tell 0 = .ok (.iload_n 1, 1) := by decide +kernel
theorem d_Band_tell_1 : decode b_Band_tell 1 = .ok (.invokestatic 208, 3) := by decide +kernel
theorem d_Band_tell_4 : decode b_Band_tell 4 = .ok (.ifCond .eq 18, 3) := by decide +kernel
theorem d_Band_tell_7 : decode b_Band_tell 7 = .ok (.iload_n 2, 1) := by decide +kernel
theorem d_Band_tell_8 : decode b_Band_tell 8 = .ok (.invokestatic 69, 3) := by decide +kernel
theorem d_Band_tell_11 : decode b_Band_tell 11 = .ok (.ifCond .eq 11, 3) := by decide +kernel
theorem d_Band_tell_14 : decode b_Band_tell 14 = .ok (.aload_n 0, 1) := by decide +kernel
theorem d_Band_tell_15 : decode b_Band_tell 15 = .ok (.iload_n 3, 1) := by decide +kernel
theorem d_Band_tell_16 : decode b_Band_tell 16 = .ok (.invokevirtual 211, 3) := by decide +kernel
theorem d_Band_tell_19 : decode b_Band_tell 19 = .ok (.ifCond .ne 5, 3) := by decide +kernel
theorem d_Band_tell_22 : decode b_Band_tell 22 = .ok (.iconst (-1), 1) := by decide +kernel
theorem d_Band_tell_23 : decode b_Band_tell 23 = .ok (.ireturn, 1) := by decide +kernel
theorem d_Band_tell_24 : decode b_Band_tell 24 = .ok (.aload_n 0, 1) := by decide +kernel
theorem d_Band_tell_25 : decode b_Band_tell 25 = .ok (.getfield 40, 3) := by decide +kernel
theorem d_Band_tell_28 : decode b_Band_tell 28 = .ok (.iload_n 1, 1) := by decide +kernel
theorem d_Band_tell_29 : decode b_Band_tell 29 = .ok (.iload_n 2, 1) := by decide +kernel
theorem d_Band_tell_30 : decode b_Band_tell 30 = .ok (.iload_n 3, 1) := by decide +kernel
theorem d_Band_tell_31 : decode b_Band_tell 31 = .ok (.invokevirtual 214, 3) := by decide +kernel
theorem d_Band_tell_34 : decode b_Band_tell 34 = .ok (.ireturn, 1) := by decide +kernel
theorem d_Band_where_0 : decode b_Band_where 0 = .ok (.iload_n 1, 1) := by decide +kernel
theorem d_Band_where_1 : decode b_Band_where 1 = .ok (.invokestatic 208, 3) := by decide +kernel
theorem d_Band_where_4 : decode b_Band_where 4 = .ok (.ifCond .eq 25, 3) := by decide +kernel
theorem d_Band_where_7 : decode b_Band_where 7 = .ok (.iload_n 2, 1) := by decide +kernel
theorem d_Band_where_8 : decode b_Band_where 8 = .ok (.invokestatic 69, 3) := by decide +kernel
theorem d_Band_where_11 : decode b_Band_where 11 = .ok (.ifCond .eq 18, 3) := by decide +kernel
theorem d_Band_where_14 : decode b_Band_where 14 = .ok (.iload_n 3, 1) := by decide +kernel
theorem d_Band_where_15 : decode b_Band_where 15 = .ok (.iconst 0, 1) := by decide +kernel
theorem d_Band_where_16 : decode b_Band_where 16 = .ok (.aload_n 0, 1) := by decide +kernel
theorem d_Band_where_17 : decode b_Band_where 17 = .ok (.getfield 40, 3) := by decide +kernel
theorem d_Band_where_20 : decode b_Band_where 20 = .ok (.getfield 218, 3) := by decide +kernel
theorem d_Band_where_23 : decode b_Band_where 23 = .ok (.invokestatic 65, 3) := by decide +kernel
theorem d_Band_where_26 : decode b_Band_where 26 = .ok (.ifCond .ne 6, 3) := by decide +kernel
theorem d_Band_where_29 : decode b_Band_where 29 = .ok (.bipush (-3), 2) := by decide +kernel
theorem d_Band_where_31 : decode b_Band_where 31 = .ok (.ireturn, 1) := by decide +kernel
theorem d_Band_where_32 : decode b_Band_where 32 = .ok (.aload_n 0, 1) := by decide +kernel
theorem d_Band_where_33 : decode b_Band_where 33 = .ok (.getfield 40, 3) := by decide +kernel
theorem d_Band_where_36 : decode b_Band_where 36 = .ok (.iload_n 1, 1) := by decide +kernel
theorem d_Band_where_37 : decode b_Band_where 37 = .ok (.iload_n 2, 1) := by decide +kernel
theorem d_Band_where_38 : decode b_Band_where 38 = .ok (.iload_n 3, 1) := by decide +kernel
theorem d_Band_where_39 : decode b_Band_where 39 = .ok (.invokevirtual 219, 3) := by decide +kernel
theorem d_Band_where_42 : decode b_Band_where 42 = .ok (.ireturn, 1) := by decide +kernel
theorem d_Band_copies_0 : decode b_Band_copies 0 = .ok (.aload_n 0, 1) := by decide +kernel
theorem d_Band_copies_1 : decode b_Band_copies 1 = .ok (.iload_n 1, 1) := by decide +kernel
theorem d_Band_copies_2 : decode b_Band_copies 2 = .ok (.invokevirtual 211, 3) := by decide +kernel
theorem d_Band_copies_5 : decode b_Band_copies 5 = .ok (.ifCond .eq 25, 3) := by decide +kernel
theorem d_Band_copies_8 : decode b_Band_copies 8 = .ok (.iload_n 2, 1) := by decide +kernel
theorem d_Band_copies_9 : decode b_Band_copies 9 = .ok (.invokestatic 69, 3) := by decide +kernel
theorem d_Band_copies_12 : decode b_Band_copies 12 = .ok (.ifCond .eq 18, 3) := by decide +kernel
theorem d_Band_copies_15 : decode b_Band_copies 15 = .ok (.iload_n 3, 1) := by decide +kernel
theorem d_Band_copies_16 : decode b_Band_copies 16 = .ok (.iconst 0, 1) := by decide +kernel
theorem d_Band_copies_17 : decode b_Band_copies 17 = .ok (.aload_n 0, 1) := by decide +kernel
theorem d_Band_copies_18 : decode b_Band_copies 18 = .ok (.getfield 40, 3) := by decide +kernel
theorem d_Band_copies_21 : decode b_Band_copies 21 = .ok (.getfield 218, 3) := by decide +kernel
theorem d_Band_copies_24 : decode b_Band_copies 24 = .ok (.invokestatic 65, 3) := by decide +kernel
theorem d_Band_copies_27 : decode b_Band_copies 27 = .ok (.ifCond .ne 5, 3) := by decide +kernel
theorem d_Band_copies_30 : decode b_Band_copies 30 = .ok (.iconst (-1), 1) := by decide +kernel
theorem d_Band_copies_31 : decode b_Band_copies 31 = .ok (.ireturn, 1) := by decide +kernel
theorem d_Band_copies_32 : decode b_Band_copies 32 = .ok (.aload_n 0, 1) := by decide +kernel
theorem d_Band_copies_33 : decode b_Band_copies 33 = .ok (.getfield 40, 3) := by decide +kernel
theorem d_Band_copies_36 : decode b_Band_copies 36 = .ok (.iload_n 1, 1) := by decide +kernel
theorem d_Band_copies_37 : decode b_Band_copies 37 = .ok (.iload_n 2, 1) := by decide +kernel
theorem d_Band_copies_38 : decode b_Band_copies 38 = .ok (.iload_n 3, 1) := by decide +kernel
theorem d_Band_copies_39 : decode b_Band_copies 39 = .ok (.invokevirtual 222, 3) := by decide +kernel
theorem d_Band_copies_42 : decode b_Band_copies 42 = .ok (.ireturn, 1) := by decide +kernel
theorem d_Band_contest_0 : decode b_Band_contest 0 = .ok (.aload_n 0, 1) := by decide +kernel
theorem d_Band_contest_1 : decode b_Band_contest 1 = .ok (.getfield 12, 3) := by decide +kernel
theorem d_Band_contest_4 : decode b_Band_contest 4 = .ok (.iload_n 1, 1) := by decide +kernel
theorem d_Band_contest_5 : decode b_Band_contest 5 = .ok (.invokevirtual 77, 3) := by decide +kernel
theorem d_Band_contest_8 : decode b_Band_contest 8 = .ok (.ifCond .eq 14, 3) := by decide +kernel
theorem d_Band_contest_11 : decode b_Band_contest 11 = .ok (.aload_n 0, 1) := by decide +kernel
theorem d_Band_contest_12 : decode b_Band_contest 12 = .ok (.getfield 12, 3) := by decide +kernel
theorem d_Band_contest_15 : decode b_Band_contest 15 = .ok (.iload_n 1, 1) := by decide +kernel
theorem d_Band_contest_16 : decode b_Band_contest 16 = .ok (.invokevirtual 225, 3) := by decide +kernel
theorem d_Band_contest_19 : decode b_Band_contest 19 = .ok (.goto 4, 3) := by decide +kernel
theorem d_Band_contest_22 : decode b_Band_contest 22 = .ok (.iconst (-1), 1) := by decide +kernel
theorem d_Band_contest_23 : decode b_Band_contest 23 = .ok (.ireturn, 1) := by decide +kernel
theorem d_Band_may_0 : decode b_Band_may 0 = .ok (.aload_n 0, 1) := by decide +kernel
theorem d_Band_may_1 : decode b_Band_may 1 = .ok (.getfield 12, 3) := by decide +kernel
theorem d_Band_may_4 : decode b_Band_may 4 = .ok (.iload_n 1, 1) := by decide +kernel
theorem d_Band_may_5 : decode b_Band_may 5 = .ok (.invokevirtual 77, 3) := by decide +kernel
theorem d_Band_may_8 : decode b_Band_may 8 = .ok (.ifCond .eq 10, 3) := by decide +kernel
theorem d_Band_may_11 : decode b_Band_may 11 = .ok (.iload_n 2, 1) := by decide +kernel
theorem d_Band_may_12 : decode b_Band_may 12 = .ok (.invokestatic 69, 3) := by decide +kernel
theorem d_Band_may_15 : decode b_Band_may 15 = .ok (.ifCond .ne 5, 3) := by decide +kernel
theorem d_Band_may_18 : decode b_Band_may 18 = .ok (.iconst (-1), 1) := by decide +kernel
theorem d_Band_may_19 : decode b_Band_may 19 = .ok (.ireturn, 1) := by decide +kernel
theorem d_Band_may_20 : decode b_Band_may 20 = .ok (.aload_n 0, 1) := by decide +kernel
theorem d_Band_may_21 : decode b_Band_may 21 = .ok (.getfield 33, 3) := by decide +kernel
theorem d_Band_may_24 : decode b_Band_may 24 = .ok (.aload_n 0, 1) := by decide +kernel
theorem d_Band_may_25 : decode b_Band_may 25 = .ok (.getfield 12, 3) := by decide +kernel
theorem d_Band_may_28 : decode b_Band_may 28 = .ok (.getfield 228, 3) := by decide +kernel
theorem d_Band_may_31 : decode b_Band_may 31 = .ok (.iload_n 1, 1) := by decide +kernel
theorem d_Band_may_32 : decode b_Band_may 32 = .ok (.iaload, 1) := by decide +kernel
theorem d_Band_may_33 : decode b_Band_may 33 = .ok (.aload_n 0, 1) := by decide +kernel
theorem d_Band_may_34 : decode b_Band_may 34 = .ok (.getfield 12, 3) := by decide +kernel
theorem d_Band_may_37 : decode b_Band_may 37 = .ok (.getfield 231, 3) := by decide +kernel
theorem d_Band_may_40 : decode b_Band_may 40 = .ok (.iload_n 1, 1) := by decide +kernel
theorem d_Band_may_41 : decode b_Band_may 41 = .ok (.iaload, 1) := by decide +kernel
theorem d_Band_may_42 : decode b_Band_may 42 = .ok (.aload_n 0, 1) := by decide +kernel
theorem d_Band_may_43 : decode b_Band_may 43 = .ok (.getfield 40, 3) := by decide +kernel
theorem d_Band_may_46 : decode b_Band_may 46 = .ok (.iload_n 1, 1) := by decide +kernel
theorem d_Band_may_47 : decode b_Band_may 47 = .ok (.iload_n 2, 1) := by decide +kernel
theorem d_Band_may_48 : decode b_Band_may 48 = .ok (.aload_n 0, 1) := by decide +kernel
theorem d_Band_may_49 : decode b_Band_may 49 = .ok (.getfield 40, 3) := by decide +kernel
theorem d_Band_may_52 : decode b_Band_may 52 = .ok (.getfield 218, 3) := by decide +kernel
theorem d_Band_may_55 : decode b_Band_may 55 = .ok (.invokevirtual 222, 3) := by decide +kernel
theorem d_Band_may_58 : decode b_Band_may 58 = .ok (.invokevirtual 234, 3) := by decide +kernel
theorem d_Band_may_61 : decode b_Band_may 61 = .ok (.aload_n 0, 1) := by decide +kernel
theorem d_Band_may_62 : decode b_Band_may 62 = .ok (.getfield 33, 3) := by decide +kernel
theorem d_Band_may_65 : decode b_Band_may 65 = .ok (.iload_n 2, 1) := by decide +kernel
theorem d_Band_may_66 : decode b_Band_may 66 = .ok (.iload_n 2, 1) := by decide +kernel
theorem d_Band_may_67 : decode b_Band_may 67 = .ok (.aload_n 0, 1) := by decide +kernel
theorem d_Band_may_68 : decode b_Band_may 68 = .ok (.getfield 12, 3) := by decide +kernel
theorem d_Band_may_71 : decode b_Band_may 71 = .ok (.getfield 237, 3) := by decide +kernel
theorem d_Band_may_74 : decode b_Band_may 74 = .ok (.iload_n 1, 1) := by decide +kernel
theorem d_Band_may_75 : decode b_Band_may 75 = .ok (.iaload, 1) := by decide +kernel
theorem d_Band_may_76 : decode b_Band_may 76 = .ok (.isub, 1) := by decide +kernel
theorem d_Band_may_77 : decode b_Band_may 77 = .ok (.invokevirtual 240, 3) := by decide +kernel
theorem d_Band_may_80 : decode b_Band_may 80 = .ok (.aload_n 0, 1) := by decide +kernel
theorem d_Band_may_81 : decode b_Band_may 81 = .ok (.getfield 33, 3) := by decide +kernel
theorem d_Band_may_84 : decode b_Band_may 84 = .ok (.invokevirtual 244, 3) := by decide +kernel
theorem d_Band_may_87 : decode b_Band_may 87 = .ok (.ifCond .eq 7, 3) := by decide +kernel
theorem d_Band_may_90 : decode b_Band_may 90 = .ok (.iconst 1, 1) := by decide +kernel
theorem d_Band_may_91 : decode b_Band_may 91 = .ok (.goto 4, 3) := by decide +kernel
theorem d_Band_may_94 : decode b_Band_may 94 = .ok (.iconst 0, 1) := by decide +kernel
theorem d_Band_may_95 : decode b_Band_may 95 = .ok (.ireturn, 1) := by decide +kernel
theorem d_Band_count_0 : decode b_Band_count 0 = .ok (.iload_n 1, 1) := by decide +kernel
theorem d_Band_count_1 : decode b_Band_count 1 = .ok (.tableswitch 87 0 5 #[39, 47, 58, 66, 71, 79], 39) := by decide +kernel
theorem d_Band_count_40 : decode b_Band_count 40 = .ok (.aload_n 0, 1) := by decide +kernel
theorem d_Band_count_41 : decode b_Band_count 41 = .ok (.getfield 12, 3) := by decide +kernel
theorem d_Band_count_44 : decode b_Band_count 44 = .ok (.getfield 247, 3) := by decide +kernel
theorem d_Band_count_47 : decode b_Band_count 47 = .ok (.ireturn, 1) := by decide +kernel
theorem d_Band_count_48 : decode b_Band_count 48 = .ok (.aload_n 0, 1) := by decide +kernel
theorem d_Band_count_49 : decode b_Band_count 49 = .ok (.getfield 12, 3) := by decide +kernel
theorem d_Band_count_52 : decode b_Band_count 52 = .ok (.getfield 248, 3) := by decide +kernel
theorem d_Band_count_55 : decode b_Band_count 55 = .ok (.invokestatic 251, 3) := by decide +kernel
theorem d_Band_count_58 : decode b_Band_count 58 = .ok (.ireturn, 1) := by decide +kernel
theorem d_Band_count_59 : decode b_Band_count 59 = .ok (.aload_n 0, 1) := by decide +kernel
theorem d_Band_count_60 : decode b_Band_count 60 = .ok (.getfield 19, 3) := by decide +kernel
theorem d_Band_count_63 : decode b_Band_count 63 = .ok (.getfield 110, 3) := by decide +kernel
theorem d_Band_count_66 : decode b_Band_count 66 = .ok (.ireturn, 1) := by decide +kernel
theorem d_Band_count_67 : decode b_Band_count 67 = .ok (.aload_n 0, 1) := by decide +kernel
theorem d_Band_count_68 : decode b_Band_count 68 = .ok (.invokevirtual 256, 3) := by decide +kernel
theorem d_Band_count_71 : decode b_Band_count 71 = .ok (.ireturn, 1) := by decide +kernel
theorem d_Band_count_72 : decode b_Band_count 72 = .ok (.aload_n 0, 1) := by decide +kernel
theorem d_Band_count_73 : decode b_Band_count 73 = .ok (.getfield 40, 3) := by decide +kernel
theorem d_Band_count_76 : decode b_Band_count 76 = .ok (.getfield 218, 3) := by decide +kernel
theorem d_Band_count_79 : decode b_Band_count 79 = .ok (.ireturn, 1) := by decide +kernel
theorem d_Band_count_80 : decode b_Band_count 80 = .ok (.aload_n 0, 1) := by decide +kernel
theorem d_Band_count_81 : decode b_Band_count 81 = .ok (.getfield 61, 3) := by decide +kernel
theorem d_Band_count_84 : decode b_Band_count 84 = .ok (.getfield 199, 3) := by decide +kernel
theorem d_Band_count_87 : decode b_Band_count 87 = .ok (.ireturn, 1) := by decide +kernel
theorem d_Band_count_88 : decode b_Band_count 88 = .ok (.iconst (-1), 1) := by decide +kernel
theorem d_Band_count_89 : decode b_Band_count 89 = .ok (.ireturn, 1) := by decide +kernel
theorem d_Band_playablePieces_0 : decode b_Band_playablePieces 0 = .ok (.iconst 0, 1) := by decide +kernel
theorem d_Band_playablePieces_1 : decode b_Band_playablePieces 1 = .ok (.istore_n 1, 1) := by decide +kernel
theorem d_Band_playablePieces_2 : decode b_Band_playablePieces 2 = .ok (.iconst 0, 1) := by decide +kernel
theorem d_Band_playablePieces_3 : decode b_Band_playablePieces 3 = .ok (.istore_n 2, 1) := by decide +kernel
theorem d_Band_playablePieces_4 : decode b_Band_playablePieces 4 = .ok (.iload_n 2, 1) := by decide +kernel
theorem d_Band_playablePieces_5 : decode b_Band_playablePieces 5 = .ok (.aload_n 0, 1) := by decide +kernel
theorem d_Band_playablePieces_6 : decode b_Band_playablePieces 6 = .ok (.getfield 19, 3) := by decide +kernel
theorem d_Band_playablePieces_9 : decode b_Band_playablePieces 9 = .ok (.getfield 110, 3) := by decide +kernel
theorem d_Band_playablePieces_12 : decode b_Band_playablePieces 12 = .ok (.if_icmp .ge 40, 3) := by decide +kernel
theorem d_Band_playablePieces_15 : decode b_Band_playablePieces 15 = .ok (.aload_n 0, 1) := by decide +kernel
theorem d_Band_playablePieces_16 : decode b_Band_playablePieces 16 = .ok (.getfield 19, 3) := by decide +kernel
theorem d_Band_playablePieces_19 : decode b_Band_playablePieces 19 = .ok (.iload_n 2, 1) := by decide +kernel
theorem d_Band_playablePieces_20 : decode b_Band_playablePieces 20 = .ok (.invokevirtual 138, 3) := by decide +kernel
theorem d_Band_playablePieces_23 : decode b_Band_playablePieces 23 = .ok (.astore_n 3, 1) := by decide +kernel
theorem d_Band_playablePieces_24 : decode b_Band_playablePieces 24 = .ok (.aload_n 3, 1) := by decide +kernel
theorem d_Band_playablePieces_25 : decode b_Band_playablePieces 25 = .ok (.ifnull 21, 3) := by decide +kernel
theorem d_Band_playablePieces_28 : decode b_Band_playablePieces 28 = .ok (.aload_n 0, 1) := by decide +kernel
theorem d_Band_playablePieces_29 : decode b_Band_playablePieces 29 = .ok (.getfield 47, 3) := by decide +kernel
theorem d_Band_playablePieces_32 : decode b_Band_playablePieces 32 = .ok (.aload_n 3, 1) := by decide +kernel
theorem d_Band_playablePieces_33 : decode b_Band_playablePieces 33 = .ok (.aload_n 0, 1) := by decide +kernel
theorem d_Band_playablePieces_34 : decode b_Band_playablePieces 34 = .ok (.getfield 12, 3) := by decide +kernel
theorem d_Band_playablePieces_37 : decode b_Band_playablePieces 37 = .ok (.invokevirtual 148, 3) := by decide +kernel
theorem d_Band_playablePieces_40 : decode b_Band_playablePieces 40 = .ok (.ifCond .eq 6, 3) := by decide +kernel
theorem d_Band_playablePieces_43 : decode b_Band_playablePieces 43 = .ok (.iinc 1 1, 3) := by decide +kernel
theorem d_Band_playablePieces_46 : decode b_Band_playablePieces 46 = .ok (.iinc 2 1, 3) := by decide +kernel
theorem d_Band_playablePieces_49 : decode b_Band_playablePieces 49 = .ok (.goto (-45), 3) := by decide +kernel
theorem d_Band_playablePieces_52 : decode b_Band_playablePieces 52 = .ok (.iload_n 1, 1) := by decide +kernel
theorem d_Band_playablePieces_53 : decode b_Band_playablePieces 53 = .ok (.ireturn, 1) := by decide +kernel
theorem d_Band_isPlace_0 : decode b_Band_isPlace 0 = .ok (.iload_n 1, 1) := by decide +kernel
theorem d_Band_isPlace_1 : decode b_Band_isPlace 1 = .ok (.iconst (-1), 1) := by decide +kernel
theorem d_Band_isPlace_2 : decode b_Band_isPlace 2 = .ok (.if_icmp .eq 20, 3) := by decide +kernel
theorem d_Band_isPlace_5 : decode b_Band_isPlace 5 = .ok (.iload_n 1, 1) := by decide +kernel
theorem d_Band_isPlace_6 : decode b_Band_isPlace 6 = .ok (.bipush (-2), 2) := by decide +kernel
theorem d_Band_isPlace_8 : decode b_Band_isPlace 8 = .ok (.if_icmp .eq 14, 3) := by decide +kernel
theorem d_Band_isPlace_11 : decode b_Band_isPlace 11 = .ok (.aload_n 0, 1) := by decide +kernel
theorem d_Band_isPlace_12 : decode b_Band_isPlace 12 = .ok (.getfield 12, 3) := by decide +kernel
theorem d_Band_isPlace_15 : decode b_Band_isPlace 15 = .ok (.iload_n 1, 1) := by decide +kernel
theorem d_Band_isPlace_16 : decode b_Band_isPlace 16 = .ok (.invokevirtual 77, 3) := by decide +kernel
theorem d_Band_isPlace_19 : decode b_Band_isPlace 19 = .ok (.ifCond .eq 7, 3) := by decide +kernel
theorem d_Band_isPlace_22 : decode b_Band_isPlace 22 = .ok (.iconst 1, 1) := by decide +kernel
theorem d_Band_isPlace_23 : decode b_Band_isPlace 23 = .ok (.goto 4, 3) := by decide +kernel
theorem d_Band_isPlace_26 : decode b_Band_isPlace 26 = .ok (.iconst 0, 1) := by decide +kernel
theorem d_Band_isPlace_27 : decode b_Band_isPlace 27 = .ok (.ireturn, 1) := by decide +kernel
theorem d_Band_isWithin_0 : decode b_Band_isWithin 0 = .ok (.iload_n 0, 1) := by decide +kernel
theorem d_Band_isWithin_1 : decode b_Band_isWithin 1 = .ok (.iload_n 1, 1) := by decide +kernel
theorem d_Band_isWithin_2 : decode b_Band_isWithin 2 = .ok (.if_icmp .lt 12, 3) := by decide +kernel
theorem d_Band_isWithin_5 : decode b_Band_isWithin 5 = .ok (.iload_n 0, 1) := by decide +kernel
theorem d_Band_isWithin_6 : decode b_Band_isWithin 6 = .ok (.iload_n 2, 1) := by decide +kernel
theorem d_Band_isWithin_7 : decode b_Band_isWithin 7 = .ok (.if_icmp .gt 7, 3) := by decide +kernel
theorem d_Band_isWithin_10 : decode b_Band_isWithin 10 = .ok (.iconst 1, 1) := by decide +kernel
theorem d_Band_isWithin_11 : decode b_Band_isWithin 11 = .ok (.goto 4, 3) := by decide +kernel
theorem d_Band_isWithin_14 : decode b_Band_isWithin 14 = .ok (.iconst 0, 1) := by decide +kernel
theorem d_Band_isWithin_15 : decode b_Band_isWithin 15 = .ok (.ireturn, 1) := by decide +kernel
theorem d_Band_isDay_0 : decode b_Band_isDay 0 = .ok (.iload_n 0, 1) := by decide +kernel
theorem d_Band_isDay_1 : decode b_Band_isDay 1 = .ok (.iconst 0, 1) := by decide +kernel
theorem d_Band_isDay_2 : decode b_Band_isDay 2 = .ok (.sipush 999, 3) := by decide +kernel
theorem d_Band_isDay_5 : decode b_Band_isDay 5 = .ok (.invokestatic 65, 3) := by decide +kernel
theorem d_Band_isDay_8 : decode b_Band_isDay 8 = .ok (.ireturn, 1) := by decide +kernel
theorem d_Band_isInstrument_0 : decode b_Band_isInstrument 0 = .ok (.iload_n 0, 1) := by decide +kernel
theorem d_Band_isInstrument_1 : decode b_Band_isInstrument 1 = .ok (.iconst 0, 1) := by decide +kernel
theorem d_Band_isInstrument_2 : decode b_Band_isInstrument 2 = .ok (.bipush 9, 2) := by decide +kernel
theorem d_Band_isInstrument_4 : decode b_Band_isInstrument 4 = .ok (.invokestatic 65, 3) := by decide +kernel
theorem d_Band_isInstrument_7 : decode b_Band_isInstrument 7 = .ok (.ireturn, 1) := by decide +kernel
theorem d_Band_isCopy_0 : decode b_Band_isCopy 0 = .ok (.iload_n 0, 1) := by decide +kernel
theorem d_Band_isCopy_1 : decode b_Band_isCopy 1 = .ok (.iconst 0, 1) := by decide +kernel
theorem d_Band_isCopy_2 : decode b_Band_isCopy 2 = .ok (.bipush 29, 2) := by decide +kernel
theorem d_Band_isCopy_4 : decode b_Band_isCopy 4 = .ok (.invokestatic 65, 3) := by decide +kernel
theorem d_Band_isCopy_7 : decode b_Band_isCopy 7 = .ok (.ireturn, 1) := by decide +kernel
theorem d_Model_init_0 : decode b_Model_init 0 = .ok (.aload_n 0, 1) := by decide +kernel
theorem d_Model_init_1 : decode b_Model_init 1 = .ok (.invokespecial 1, 3) := by decide +kernel
theorem d_Model_init_4 : decode b_Model_init 4 = .ok (.aload_n 0, 1) := by decide +kernel
theorem d_Model_init_5 : decode b_Model_init 5 = .ok (.bipush 14, 2) := by decide +kernel
theorem d_Model_init_7 : decode b_Model_init 7 = .ok (.newarray .int, 2) := by decide +kernel
theorem d_Model_init_9 : decode b_Model_init 9 = .ok (.putfield 7, 3) := by decide +kernel
theorem d_Model_init_12 : decode b_Model_init 12 = .ok (.aload_n 0, 1) := by decide +kernel
theorem d_Model_init_13 : decode b_Model_init 13 = .ok (.bipush 14, 2) := by decide +kernel
theorem d_Model_init_15 : decode b_Model_init 15 = .ok (.newarray .int, 2) := by decide +kernel
theorem d_Model_init_17 : decode b_Model_init 17 = .ok (.putfield 13, 3) := by decide +kernel
theorem d_Model_init_20 : decode b_Model_init 20 = .ok (.aload_n 0, 1) := by decide +kernel
theorem d_Model_init_21 : decode b_Model_init 21 = .ok (.bipush 14, 2) := by decide +kernel
theorem d_Model_init_23 : decode b_Model_init 23 = .ok (.newarray .int, 2) := by decide +kernel
theorem d_Model_init_25 : decode b_Model_init 25 = .ok (.putfield 16, 3) := by decide +kernel
theorem d_Model_init_28 : decode b_Model_init 28 = .ok (.aload_n 0, 1) := by decide +kernel
theorem d_Model_init_29 : decode b_Model_init 29 = .ok (.bipush 14, 2) := by decide +kernel
theorem d_Model_init_31 : decode b_Model_init 31 = .ok (.newarray .boolean, 2) := by decide +kernel
theorem d_Model_init_33 : decode b_Model_init 33 = .ok (.putfield 19, 3) := by decide +kernel
theorem d_Model_init_36 : decode b_Model_init 36 = .ok (.aload_n 0, 1) := by decide +kernel
theorem d_Model_init_37 : decode b_Model_init 37 = .ok (.sipush 140, 3) := by decide +kernel
theorem d_Model_init_40 : decode b_Model_init 40 = .ok (.newarray .int, 2) := by decide +kernel
theorem d_Model_init_42 : decode b_Model_init 42 = .ok (.putfield 23, 3) := by decide +kernel
theorem d_Model_init_45 : decode b_Model_init 45 = .ok (.aload_n 0, 1) := by decide +kernel
theorem d_Model_init_46 : decode b_Model_init 46 = .ok (.bipush 10, 2) := by decide +kernel
theorem d_Model_init_48 : decode b_Model_init 48 = .ok (.newarray .long, 2) := by decide +kernel
theorem d_Model_init_50 : decode b_Model_init 50 = .ok (.putfield 26, 3) := by decide +kernel
theorem d_Model_init_53 : decode b_Model_init 53 = .ok (.aload_n 0, 1) := by decide +kernel
theorem d_Model_init_54 : decode b_Model_init 54 = .ok (.bipush 10, 2) := by decide +kernel
theorem d_Model_init_56 : decode b_Model_init 56 = .ok (.newarray .int, 2) := by decide +kernel
theorem d_Model_init_58 : decode b_Model_init 58 = .ok (.putfield 30, 3) := by decide +kernel
theorem d_Model_init_61 : decode b_Model_init 61 = .ok (.aload_n 0, 1) := by decide +kernel
theorem d_Model_init_62 : decode b_Model_init 62 = .ok (.bipush 10, 2) := by decide +kernel
theorem d_Model_init_64 : decode b_Model_init 64 = .ok (.newarray .int, 2) := by decide +kernel
theorem d_Model_init_66 : decode b_Model_init 66 = .ok (.putfield 33, 3) := by decide +kernel
theorem d_Model_init_69 : decode b_Model_init 69 = .ok (.aload_n 0, 1) := by decide +kernel
theorem d_Model_init_70 : decode b_Model_init 70 = .ok (.bipush 10, 2) := by decide +kernel
theorem d_Model_init_72 : decode b_Model_init 72 = .ok (.newarray .int, 2) := by decide +kernel
theorem d_Model_init_74 : decode b_Model_init 74 = .ok (.putfield 36, 3) := by decide +kernel
theorem d_Model_init_77 : decode b_Model_init 77 = .ok (.aload_n 0, 1) := by decide +kernel
theorem d_Model_init_78 : decode b_Model_init 78 = .ok (.bipush 10, 2) := by decide +kernel
theorem d_Model_init_80 : decode b_Model_init 80 = .ok (.newarray .int, 2) := by decide +kernel
theorem d_Model_init_82 : decode b_Model_init 82 = .ok (.putfield 39, 3) := by decide +kernel
theorem d_Model_init_85 : decode b_Model_init 85 = .ok (.aload_n 0, 1) := by decide +kernel
theorem d_Model_init_86 : decode b_Model_init 86 = .ok (.bipush 10, 2) := by decide +kernel
theorem d_Model_init_88 : decode b_Model_init 88 = .ok (.newarray .int, 2) := by decide +kernel
theorem d_Model_init_90 : decode b_Model_init 90 = .ok (.putfield 42, 3) := by decide +kernel
theorem d_Model_init_93 : decode b_Model_init 93 = .ok (.aload_n 0, 1) := by decide +kernel
theorem d_Model_init_94 : decode b_Model_init 94 = .ok (.bipush 100, 2) := by decide +kernel
theorem d_Model_init_96 : decode b_Model_init 96 = .ok (.newarray .int, 2) := by decide +kernel
theorem d_Model_init_98 : decode b_Model_init 98 = .ok (.putfield 45, 3) := by decide +kernel
theorem d_Model_init_101 : decode b_Model_init 101 = .ok (.aload_n 0, 1) := by decide +kernel
theorem d_Model_init_102 : decode b_Model_init 102 = .ok (.sipush 400, 3) := by decide +kernel
