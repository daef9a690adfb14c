-- decode rows, by program
theorem dX11_best_15 : decode cX11_best 15 = .ok (.aload_n 0, 1) := by decide +kernel
theorem dX11_best_16 : decode cX11_best 16 = .ok (.getfield 66, 3) := by decide +kernel
theorem dX11_best_19 : decode cX11_best 19 = .ok (.iload_n 1, 1) := by decide +kernel
theorem dX11_best_20 : decode cX11_best 20 = .ok (.iconst 0, 1) := by decide +kernel
theorem dX11_best_21 : decode cX11_best 21 = .ok (.invokevirtual 205, 3) := by decide +kernel
theorem dX11_best_24 : decode cX11_best 24 = .ok (.aload_n 0, 1) := by decide +kernel
theorem dX11_best_25 : decode cX11_best 25 = .ok (.getfield 79, 3) := by decide +kernel
theorem dX11_best_28 : decode cX11_best 28 = .ok (.getfield 209, 3) := by decide +kernel
theorem dX11_best_31 : decode cX11_best 31 = .ok (.ireturn, 1) := by decide +kernel
theorem dX11_ith_0 : decode cX11_ith 0 = .ok (.iload_n 1, 1) := by decide +kernel
theorem dX11_ith_1 : decode cX11_ith 1 = .ok (.ifCond .lt 17, 3) := by decide +kernel
theorem dX11_ith_4 : decode cX11_ith 4 = .ok (.iload_n 1, 1) := by decide +kernel
theorem dX11_ith_5 : decode cX11_ith 5 = .ok (.iconst 4, 1) := by decide +kernel
theorem dX11_ith_6 : decode cX11_ith 6 = .ok (.if_icmp .gt 12, 3) := by decide +kernel
theorem dX11_ith_9 : decode cX11_ith 9 = .ok (.iload_n 2, 1) := by decide +kernel
theorem dX11_ith_10 : decode cX11_ith 10 = .ok (.ifCond .lt 8, 3) := by decide +kernel
theorem dX11_ith_13 : decode cX11_ith 13 = .ok (.iload_n 2, 1) := by decide +kernel
theorem dX11_ith_14 : decode cX11_ith 14 = .ok (.iconst 4, 1) := by decide +kernel
theorem dX11_ith_15 : decode cX11_ith 15 = .ok (.if_icmp .lt 5, 3) := by decide +kernel
theorem dX11_ith_18 : decode cX11_ith 18 = .ok (.iconst (-1), 1) := by decide +kernel
theorem dX11_ith_19 : decode cX11_ith 19 = .ok (.ireturn, 1) := by decide +kernel
theorem dX11_ith_20 : decode cX11_ith 20 = .ok (.aload_n 0, 1) := by decide +kernel
theorem dX11_ith_21 : decode cX11_ith 21 = .ok (.getfield 79, 3) := by decide +kernel
theorem dX11_ith_24 : decode cX11_ith 24 = .ok (.aload_n 0, 1) := by decide +kernel
theorem dX11_ith_25 : decode cX11_ith 25 = .ok (.getfield 66, 3) := by decide +kernel
theorem dX11_ith_28 : decode cX11_ith 28 = .ok (.iload_n 1, 1) := by decide +kernel
theorem dX11_ith_29 : decode cX11_ith 29 = .ok (.iconst 0, 1) := by decide +kernel
theorem dX11_ith_30 : decode cX11_ith 30 = .ok (.invokevirtual 205, 3) := by decide +kernel
theorem dX11_ith_33 : decode cX11_ith 33 = .ok (.iload_n 2, 1) := by decide +kernel
theorem dX11_ith_34 : decode cX11_ith 34 = .ok (.aload_n 0, 1) := by decide +kernel
theorem dX11_ith_35 : decode cX11_ith 35 = .ok (.getfield 79, 3) := by decide +kernel
theorem dX11_ith_38 : decode cX11_ith 38 = .ok (.getfield 212, 3) := by decide +kernel
theorem dX11_ith_41 : decode cX11_ith 41 = .ok (.if_icmp .ge 15, 3) := by decide +kernel
theorem dX11_ith_44 : decode cX11_ith 44 = .ok (.aload_n 0, 1) := by decide +kernel
theorem dX11_ith_45 : decode cX11_ith 45 = .ok (.getfield 79, 3) := by decide +kernel
theorem dX11_ith_48 : decode cX11_ith 48 = .ok (.getfield 215, 3) := by decide +kernel
theorem dX11_ith_51 : decode cX11_ith 51 = .ok (.iload_n 2, 1) := by decide +kernel
theorem dX11_ith_52 : decode cX11_ith 52 = .ok (.iaload, 1) := by decide +kernel
theorem dX11_ith_53 : decode cX11_ith 53 = .ok (.goto 5, 3) := by decide +kernel
theorem dX11_ith_56 : decode cX11_ith 56 = .ok (.bipush (-3), 2) := by decide +kernel
theorem dX11_ith_58 : decode cX11_ith 58 = .ok (.ireturn, 1) := by decide +kernel
theorem dX11_ways_0 : decode cX11_ways 0 = .ok (.iload_n 1, 1) := by decide +kernel
theorem dX11_ways_1 : decode cX11_ways 1 = .ok (.ifCond .lt 8, 3) := by decide +kernel
theorem dX11_ways_4 : decode cX11_ways 4 = .ok (.iload_n 1, 1) := by decide +kernel
theorem dX11_ways_5 : decode cX11_ways 5 = .ok (.iconst 4, 1) := by decide +kernel
theorem dX11_ways_6 : decode cX11_ways 6 = .ok (.if_icmp .le 5, 3) := by decide +kernel
theorem dX11_ways_9 : decode cX11_ways 9 = .ok (.iconst (-1), 1) := by decide +kernel
theorem dX11_ways_10 : decode cX11_ways 10 = .ok (.ireturn, 1) := by decide +kernel
theorem dX11_ways_11 : decode cX11_ways 11 = .ok (.aload_n 0, 1) := by decide +kernel
theorem dX11_ways_12 : decode cX11_ways 12 = .ok (.getfield 79, 3) := by decide +kernel
theorem dX11_ways_15 : decode cX11_ways 15 = .ok (.aload_n 0, 1) := by decide +kernel
theorem dX11_ways_16 : decode cX11_ways 16 = .ok (.getfield 66, 3) := by decide +kernel
theorem dX11_ways_19 : decode cX11_ways 19 = .ok (.iload_n 1, 1) := by decide +kernel
theorem dX11_ways_20 : decode cX11_ways 20 = .ok (.iconst 0, 1) := by decide +kernel
theorem dX11_ways_21 : decode cX11_ways 21 = .ok (.invokevirtual 205, 3) := by decide +kernel
theorem dX11_ways_24 : decode cX11_ways 24 = .ok (.aload_n 0, 1) := by decide +kernel
theorem dX11_ways_25 : decode cX11_ways 25 = .ok (.getfield 79, 3) := by decide +kernel
theorem dX11_ways_28 : decode cX11_ways 28 = .ok (.getfield 218, 3) := by decide +kernel
theorem dX11_ways_31 : decode cX11_ways 31 = .ok (.ireturn, 1) := by decide +kernel
theorem dX11_train_0 : decode cX11_train 0 = .ok (.iload_n 1, 1) := by decide +kernel
theorem dX11_train_1 : decode cX11_train 1 = .ok (.ifCond .lt 19, 3) := by decide +kernel
theorem dX11_train_4 : decode cX11_train 4 = .ok (.iload_n 1, 1) := by decide +kernel
theorem dX11_train_5 : decode cX11_train 5 = .ok (.iconst 4, 1) := by decide +kernel
theorem dX11_train_6 : decode cX11_train 6 = .ok (.if_icmp .gt 14, 3) := by decide +kernel
theorem dX11_train_9 : decode cX11_train 9 = .ok (.aload_n 0, 1) := by decide +kernel
theorem dX11_train_10 : decode cX11_train 10 = .ok (.getfield 66, 3) := by decide +kernel
theorem dX11_train_13 : decode cX11_train 13 = .ok (.iload_n 2, 1) := by decide +kernel
theorem dX11_train_14 : decode cX11_train 14 = .ok (.invokevirtual 193, 3) := by decide +kernel
theorem dX11_train_17 : decode cX11_train 17 = .ok (.ifCond .ne 5, 3) := by decide +kernel
theorem dX11_train_20 : decode cX11_train 20 = .ok (.iconst (-1), 1) := by decide +kernel
theorem dX11_train_21 : decode cX11_train 21 = .ok (.ireturn, 1) := by decide +kernel
theorem dX11_train_22 : decode cX11_train 22 = .ok (.aload_n 0, 1) := by decide +kernel
theorem dX11_train_23 : decode cX11_train 23 = .ok (.getfield 79, 3) := by decide +kernel
theorem dX11_train_26 : decode cX11_train 26 = .ok (.aload_n 0, 1) := by decide +kernel
theorem dX11_train_27 : decode cX11_train 27 = .ok (.getfield 66, 3) := by decide +kernel
theorem dX11_train_30 : decode cX11_train 30 = .ok (.iload_n 1, 1) := by decide +kernel
theorem dX11_train_31 : decode cX11_train 31 = .ok (.iload_n 2, 1) := by decide +kernel
theorem dX11_train_32 : decode cX11_train 32 = .ok (.invokevirtual 205, 3) := by decide +kernel
theorem dX11_train_35 : decode cX11_train 35 = .ok (.aload_n 0, 1) := by decide +kernel
theorem dX11_train_36 : decode cX11_train 36 = .ok (.getfield 79, 3) := by decide +kernel
theorem dX11_train_39 : decode cX11_train 39 = .ok (.getfield 221, 3) := by decide +kernel
theorem dX11_train_42 : decode cX11_train 42 = .ok (.iconst 4, 1) := by decide +kernel
theorem dX11_train_43 : decode cX11_train 43 = .ok (.if_icmp .gt 13, 3) := by decide +kernel
theorem dX11_train_46 : decode cX11_train 46 = .ok (.aload_n 0, 1) := by decide +kernel
theorem dX11_train_47 : decode cX11_train 47 = .ok (.getfield 79, 3) := by decide +kernel
theorem dX11_train_50 : decode cX11_train 50 = .ok (.getfield 221, 3) := by decide +kernel
theorem dX11_train_53 : decode cX11_train 53 = .ok (.goto 5, 3) := by decide +kernel
theorem dX11_train_56 : decode cX11_train 56 = .ok (.bipush (-3), 2) := by decide +kernel
theorem dX11_train_58 : decode cX11_train 58 = .ok (.ireturn, 1) := by decide +kernel
theorem dX11_bars_0 : decode cX11_bars 0 = .ok (.iload_n 1, 1) := by decide +kernel
theorem dX11_bars_1 : decode cX11_bars 1 = .ok (.ifCond .lt 19, 3) := by decide +kernel
theorem dX11_bars_4 : decode cX11_bars 4 = .ok (.iload_n 1, 1) := by decide +kernel
theorem dX11_bars_5 : decode cX11_bars 5 = .ok (.iconst 4, 1) := by decide +kernel
theorem dX11_bars_6 : decode cX11_bars 6 = .ok (.if_icmp .gt 14, 3) := by decide +kernel
theorem dX11_bars_9 : decode cX11_bars 9 = .ok (.aload_n 0, 1) := by decide +kernel
theorem dX11_bars_10 : decode cX11_bars 10 = .ok (.getfield 66, 3) := by decide +kernel
theorem dX11_bars_13 : decode cX11_bars 13 = .ok (.iload_n 2, 1) := by decide +kernel
theorem dX11_bars_14 : decode cX11_bars 14 = .ok (.invokevirtual 193, 3) := by decide +kernel
theorem dX11_bars_17 : decode cX11_bars 17 = .ok (.ifCond .ne 5, 3) := by decide +kernel
theorem dX11_bars_20 : decode cX11_bars 20 = .ok (.iconst (-1), 1) := by decide +kernel
theorem dX11_bars_21 : decode cX11_bars 21 = .ok (.ireturn, 1) := by decide +kernel
theorem dX11_bars_22 : decode cX11_bars 22 = .ok (.aload_n 0, 1) := by decide +kernel
theorem dX11_bars_23 : decode cX11_bars 23 = .ok (.getfield 79, 3) := by decide +kernel
theorem dX11_bars_26 : decode cX11_bars 26 = .ok (.aload_n 0, 1) := by decide +kernel
theorem dX11_bars_27 : decode cX11_bars 27 = .ok (.getfield 66, 3) := by decide +kernel
theorem dX11_bars_30 : decode cX11_bars 30 = .ok (.iload_n 1, 1) := by decide +kernel
theorem dX11_bars_31 : decode cX11_bars 31 = .ok (.iload_n 2, 1) := by decide +kernel
theorem dX11_bars_32 : decode cX11_bars 32 = .ok (.invokevirtual 205, 3) := by decide +kernel
theorem dX11_bars_35 : decode cX11_bars 35 = .ok (.iload_n 2, 1) := by decide +kernel
theorem dX11_bars_36 : decode cX11_bars 36 = .ok (.aload_n 0, 1) := by decide +kernel
theorem dX11_bars_37 : decode cX11_bars 37 = .ok (.getfield 79, 3) := by decide +kernel
theorem dX11_bars_40 : decode cX11_bars 40 = .ok (.getfield 224, 3) := by decide +kernel
theorem dX11_bars_43 : decode cX11_bars 43 = .ok (.iconst (-1), 1) := by decide +kernel
theorem dX11_bars_44 : decode cX11_bars 44 = .ok (.ixor, 1) := by decide +kernel
theorem dX11_bars_45 : decode cX11_bars 45 = .ok (.iand, 1) := by decide +kernel
theorem dX11_bars_46 : decode cX11_bars 46 = .ok (.istore_n 3, 1) := by decide +kernel
theorem dX11_bars_47 : decode cX11_bars 47 = .ok (.iload_n 3, 1) := by decide +kernel
theorem dX11_bars_48 : decode cX11_bars 48 = .ok (.ifCond .ne 8, 3) := by decide +kernel
theorem dX11_bars_51 : decode cX11_bars 51 = .ok (.bipush (-3), 2) := by decide +kernel
theorem dX11_bars_53 : decode cX11_bars 53 = .ok (.goto 7, 3) := by decide +kernel
theorem dX11_bars_56 : decode cX11_bars 56 = .ok (.iload_n 3, 1) := by decide +kernel
theorem dX11_bars_57 : decode cX11_bars 57 = .ok (.invokestatic 227, 3) := by decide +kernel
theorem dX11_bars_60 : decode cX11_bars 60 = .ok (.ireturn, 1) := by decide +kernel
theorem dX11_game_0 : decode cX11_game 0 = .ok (.iload_n 1, 1) := by decide +kernel
theorem dX11_game_1 : decode cX11_game 1 = .ok (.iconst 1, 1) := by decide +kernel
theorem dX11_game_2 : decode cX11_game 2 = .ok (.if_icmp .lt 8, 3) := by decide +kernel
theorem dX11_game_5 : decode cX11_game 5 = .ok (.iload_n 1, 1) := by decide +kernel
theorem dX11_game_6 : decode cX11_game 6 = .ok (.iconst 4, 1) := by decide +kernel
theorem dX11_game_7 : decode cX11_game 7 = .ok (.if_icmp .le 5, 3) := by decide +kernel
theorem dX11_game_10 : decode cX11_game 10 = .ok (.iconst (-1), 1) := by decide +kernel
theorem dX11_game_11 : decode cX11_game 11 = .ok (.ireturn, 1) := by decide +kernel
theorem dX11_game_12 : decode cX11_game 12 = .ok (.aload_n 0, 1) := by decide +kernel
theorem dX11_game_13 : decode cX11_game 13 = .ok (.getfield 79, 3) := by decide +kernel
theorem dX11_game_16 : decode cX11_game 16 = .ok (.aload_n 0, 1) := by decide +kernel
theorem dX11_game_17 : decode cX11_game 17 = .ok (.getfield 66, 3) := by decide +kernel
theorem dX11_game_20 : decode cX11_game 20 = .ok (.iload_n 1, 1) := by decide +kernel
theorem dX11_game_21 : decode cX11_game 21 = .ok (.invokevirtual 230, 3) := by decide +kernel
theorem dX11_game_24 : decode cX11_game 24 = .ok (.aload_n 0, 1) := by decide +kernel
theorem dX11_game_25 : decode cX11_game 25 = .ok (.getfield 79, 3) := by decide +kernel
theorem dX11_game_28 : decode cX11_game 28 = .ok (.getfield 234, 3) := by decide +kernel
theorem dX11_game_31 : decode cX11_game 31 = .ok (.ireturn, 1) := by decide +kernel
theorem dX11_play_0 : decode cX11_play 0 = .ok (.iload_n 1, 1) := by decide +kernel
theorem dX11_play_1 : decode cX11_play 1 = .ok (.iconst 1, 1) := by decide +kernel
theorem dX11_play_2 : decode cX11_play 2 = .ok (.if_icmp .lt 8, 3) := by decide +kernel
theorem dX11_play_5 : decode cX11_play 5 = .ok (.iload_n 1, 1) := by decide +kernel
theorem dX11_play_6 : decode cX11_play 6 = .ok (.iconst 4, 1) := by decide +kernel
theorem dX11_play_7 : decode cX11_play 7 = .ok (.if_icmp .le 5, 3) := by decide +kernel
theorem dX11_play_10 : decode cX11_play 10 = .ok (.iconst (-1), 1) := by decide +kernel
theorem dX11_play_11 : decode cX11_play 11 = .ok (.ireturn, 1) := by decide +kernel
theorem dX11_play_12 : decode cX11_play 12 = .ok (.aload_n 0, 1) := by decide +kernel
theorem dX11_play_13 : decode cX11_play 13 = .ok (.getfield 66, 3) := by decide +kernel
theorem dX11_play_16 : decode cX11_play 16 = .ok (.invokevirtual 153, 3) := by decide +kernel
theorem dX11_play_19 : decode cX11_play 19 = .ok (.ifCond .eq 6, 3) := by decide +kernel
theorem dX11_play_22 : decode cX11_play 22 = .ok (.bipush (-3), 2) := by decide +kernel
theorem dX11_play_24 : decode cX11_play 24 = .ok (.ireturn, 1) := by decide +kernel
theorem dX11_play_25 : decode cX11_play 25 = .ok (.aload_n 0, 1) := by decide +kernel
theorem dX11_play_26 : decode cX11_play 26 = .ok (.getfield 79, 3) := by decide +kernel
theorem dX11_play_29 : decode cX11_play 29 = .ok (.aload_n 0, 1) := by decide +kernel
theorem dX11_play_30 : decode cX11_play 30 = .ok (.getfield 66, 3) := by decide +kernel
theorem dX11_play_33 : decode cX11_play 33 = .ok (.iload_n 1, 1) := by decide +kernel
theorem dX11_play_34 : decode cX11_play 34 = .ok (.invokevirtual 230, 3) := by decide +kernel
theorem dX11_play_37 : decode cX11_play 37 = .ok (.aload_n 0, 1) := by decide +kernel
theorem dX11_play_38 : decode cX11_play 38 = .ok (.getfield 79, 3) := by decide +kernel
theorem dX11_play_41 : decode cX11_play 41 = .ok (.getfield 237, 3) := by decide +kernel
theorem dX11_play_44 : decode cX11_play 44 = .ok (.ireturn, 1) := by decide +kernel
theorem dX11_report_0 : decode cX11_report 0 = .ok (.iload_n 1, 1) := by decide +kernel
theorem dX11_report_1 : decode cX11_report 1 = .ok (.ifCond .lt 23, 3) := by decide +kernel
theorem dX11_report_4 : decode cX11_report 4 = .ok (.iload_n 1, 1) := by decide +kernel
theorem dX11_report_5 : decode cX11_report 5 = .ok (.bipush 16, 2) := by decide +kernel
theorem dX11_report_7 : decode cX11_report 7 = .ok (.if_icmp .ge 17, 3) := by decide +kernel
theorem dX11_report_10 : decode cX11_report 10 = .ok (.iload_n 2, 1) := by decide +kernel
theorem dX11_report_11 : decode cX11_report 11 = .ok (.ifCond .lt 13, 3) := by decide +kernel
theorem dX11_report_14 : decode cX11_report 14 = .ok (.iload_n 3, 1) := by decide +kernel
theorem dX11_report_15 : decode cX11_report 15 = .ok (.iconst 4, 1) := by decide +kernel
theorem dX11_report_16 : decode cX11_report 16 = .ok (.if_icmp .gt 8, 3) := by decide +kernel
theorem dX11_report_19 : decode cX11_report 19 = .ok (.iload_n 3, 1) := by decide +kernel
theorem dX11_report_20 : decode cX11_report 20 = .ok (.iload_n 2, 1) := by decide +kernel
theorem dX11_report_21 : decode cX11_report 21 = .ok (.if_icmp .ge 5, 3) := by decide +kernel
theorem dX11_report_24 : decode cX11_report 24 = .ok (.iconst (-1), 1) := by decide +kernel
theorem dX11_report_25 : decode cX11_report 25 = .ok (.ireturn, 1) := by decide +kernel
theorem dX11_report_26 : decode cX11_report 26 = .ok (.aload_n 0, 1) := by decide +kernel
theorem dX11_report_27 : decode cX11_report 27 = .ok (.getfield 31, 3) := by decide +kernel
theorem dX11_report_30 : decode cX11_report 30 = .ok (.getfield 240, 3) := by decide +kernel
theorem dX11_report_33 : decode cX11_report 33 = .ok (.bipush 6, 2) := by decide +kernel
theorem dX11_report_35 : decode cX11_report 35 = .ok (.if_icmp .lt 8, 3) := by decide +kernel
theorem dX11_report_38 : decode cX11_report 38 = .ok (.bipush (-2), 2) := by decide +kernel
theorem dX11_report_40 : decode cX11_report 40 = .ok (.goto 13, 3) := by decide +kernel
theorem dX11_report_43 : decode cX11_report 43 = .ok (.aload_n 0, 1) := by decide +kernel
theorem dX11_report_44 : decode cX11_report 44 = .ok (.getfield 31, 3) := by decide +kernel
theorem dX11_report_47 : decode cX11_report 47 = .ok (.iload_n 1, 1) := by decide +kernel
theorem dX11_report_48 : decode cX11_report 48 = .ok (.iload_n 2, 1) := by decide +kernel
theorem dX11_report_49 : decode cX11_report 49 = .ok (.iload_n 3, 1) := by decide +kernel
theorem dX11_report_50 : decode cX11_report 50 = .ok (.invokevirtual 243, 3) := by decide +kernel
theorem dX11_report_53 : decode cX11_report 53 = .ok (.ireturn, 1) := by decide +kernel
theorem dX11_forget_0 : decode cX11_forget 0 = .ok (.aload_n 0, 1) := by decide +kernel
theorem dX11_forget_1 : decode cX11_forget 1 = .ok (.getfield 31, 3) := by decide +kernel
theorem dX11_forget_4 : decode cX11_forget 4 = .ok (.getfield 240, 3) := by decide +kernel
theorem dX11_forget_7 : decode cX11_forget 7 = .ok (.istore_n 1, 1) := by decide +kernel
theorem dX11_forget_8 : decode cX11_forget 8 = .ok (.aload_n 0, 1) := by decide +kernel
theorem dX11_forget_9 : decode cX11_forget 9 = .ok (.getfield 31, 3) := by decide +kernel
theorem dX11_forget_12 : decode cX11_forget 12 = .ok (.iconst 0, 1) := by decide +kernel
theorem dX11_forget_13 : decode cX11_forget 13 = .ok (.putfield 240, 3) := by decide +kernel
theorem dX11_forget_16 : decode cX11_forget 16 = .ok (.iload_n 1, 1) := by decide +kernel
theorem dX11_forget_17 : decode cX11_forget 17 = .ok (.ireturn, 1) := by decide +kernel
theorem dX11_span_0 : decode cX11_span 0 = .ok (.iload_n 1, 1) := by decide +kernel
theorem dX11_span_1 : decode cX11_span 1 = .ok (.ifCond .lt 8, 3) := by decide +kernel
theorem dX11_span_4 : decode cX11_span 4 = .ok (.iload_n 1, 1) := by decide +kernel
theorem dX11_span_5 : decode cX11_span 5 = .ok (.iconst 3, 1) := by decide +kernel
theorem dX11_span_6 : decode cX11_span 6 = .ok (.if_icmp .le 5, 3) := by decide +kernel
theorem dX11_span_9 : decode cX11_span 9 = .ok (.iconst (-1), 1) := by decide +kernel
theorem dX11_span_10 : decode cX11_span 10 = .ok (.ireturn, 1) := by decide +kernel
theorem dX11_span_11 : decode cX11_span 11 = .ok (.aload_n 0, 1) := by decide +kernel
theorem dX11_span_12 : decode cX11_span 12 = .ok (.getfield 31, 3) := by decide +kernel
theorem dX11_span_15 : decode cX11_span 15 = .ok (.invokevirtual 245, 3) := by decide +kernel
theorem dX11_span_18 : decode cX11_span 18 = .ok (.iload_n 1, 1) := by decide +kernel
theorem dX11_span_19 : decode cX11_span 19 = .ok (.ifCond .ne 11, 3) := by decide +kernel
theorem dX11_span_22 : decode cX11_span 22 = .ok (.aload_n 0, 1) := by decide +kernel
theorem dX11_span_23 : decode cX11_span 23 = .ok (.getfield 31, 3) := by decide +kernel
theorem dX11_span_26 : decode cX11_span 26 = .ok (.getfield 248, 3) := by decide +kernel
theorem dX11_span_29 : decode cX11_span 29 = .ok (.ireturn, 1) := by decide +kernel
theorem dX11_span_30 : decode cX11_span 30 = .ok (.aload_n 0, 1) := by decide +kernel
theorem dX11_span_31 : decode cX11_span 31 = .ok (.getfield 31, 3) := by decide +kernel
theorem dX11_span_34 : decode cX11_span 34 = .ok (.getfield 248, 3) := by decide +kernel
theorem dX11_span_37 : decode cX11_span 37 = .ok (.ifCond .ne 6, 3) := by decide +kernel
theorem dX11_span_40 : decode cX11_span 40 = .ok (.bipush (-3), 2) := by decide +kernel
theorem dX11_span_42 : decode cX11_span 42 = .ok (.ireturn, 1) := by decide +kernel
theorem dX11_span_43 : decode cX11_span 43 = .ok (.iload_n 1, 1) := by decide +kernel
theorem dX11_span_44 : decode cX11_span 44 = .ok (.iconst 1, 1) := by decide +kernel
theorem dX11_span_45 : decode cX11_span 45 = .ok (.if_icmp .ne 11, 3) := by decide +kernel
theorem dX11_span_48 : decode cX11_span 48 = .ok (.aload_n 0, 1) := by decide +kernel
theorem dX11_span_49 : decode cX11_span 49 = .ok (.getfield 31, 3) := by decide +kernel
theorem dX11_span_52 : decode cX11_span 52 = .ok (.getfield 251, 3) := by decide +kernel
theorem dX11_span_55 : decode cX11_span 55 = .ok (.ireturn, 1) := by decide +kernel
theorem dX11_span_56 : decode cX11_span 56 = .ok (.iload_n 1, 1) := by decide +kernel
theorem dX11_span_57 : decode cX11_span 57 = .ok (.iconst 2, 1) := by decide +kernel
theorem dX11_span_58 : decode cX11_span 58 = .ok (.if_icmp .ne 13, 3) := by decide +kernel
theorem dX11_span_61 : decode cX11_span 61 = .ok (.aload_n 0, 1) := by decide +kernel
theorem dX11_span_62 : decode cX11_span 62 = .ok (.getfield 31, 3) := by decide +kernel
theorem dX11_span_65 : decode cX11_span 65 = .ok (.getfield 254, 3) := by decide +kernel
theorem dX11_span_68 : decode cX11_span 68 = .ok (.goto 10, 3) := by decide +kernel
theorem dX11_span_71 : decode cX11_span 71 = .ok (.aload_n 0, 1) := by decide +kernel
theorem dX11_span_72 : decode cX11_span 72 = .ok (.getfield 31, 3) := by decide +kernel
theorem dX11_span_75 : decode cX11_span 75 = .ok (.getfield 257, 3) := by decide +kernel
theorem dX11_span_78 : decode cX11_span 78 = .ok (.ireturn, 1) := by decide +kernel
theorem dX11_liar_0 : decode cX11_liar 0 = .ok (.aload_n 0, 1) := by decide +kernel
theorem dX11_liar_1 : decode cX11_liar 1 = .ok (.getfield 31, 3) := by decide +kernel
theorem dX11_liar_4 : decode cX11_liar 4 = .ok (.invokevirtual 245, 3) := by decide +kernel
theorem dX11_liar_7 : decode cX11_liar 7 = .ok (.aload_n 0, 1) := by decide +kernel
theorem dX11_liar_8 : decode cX11_liar 8 = .ok (.getfield 31, 3) := by decide +kernel
theorem dX11_liar_11 : decode cX11_liar 11 = .ok (.getfield 248, 3) := by decide +kernel
theorem dX11_liar_14 : decode cX11_liar 14 = .ok (.ifCond .gt 20, 3) := by decide +kernel
theorem dX11_liar_17 : decode cX11_liar 17 = .ok (.aload_n 0, 1) := by decide +kernel
theorem dX11_liar_18 : decode cX11_liar 18 = .ok (.getfield 31, 3) := by decide +kernel
theorem dX11_liar_21 : decode cX11_liar 21 = .ok (.getfield 260, 3) := by decide +kernel
theorem dX11_liar_24 : decode cX11_liar 24 = .ok (.aload_n 0, 1) := by decide +kernel
theorem dX11_liar_25 : decode cX11_liar 25 = .ok (.getfield 31, 3) := by decide +kernel
theorem dX11_liar_28 : decode cX11_liar 28 = .ok (.getfield 240, 3) := by decide +kernel
theorem dX11_liar_31 : decode cX11_liar 31 = .ok (.if_icmp .lt 8, 3) := by decide +kernel
theorem dX11_liar_34 : decode cX11_liar 34 = .ok (.bipush (-3), 2) := by decide +kernel
theorem dX11_liar_36 : decode cX11_liar 36 = .ok (.goto 10, 3) := by decide +kernel
theorem dX11_liar_39 : decode cX11_liar 39 = .ok (.aload_n 0, 1) := by decide +kernel
theorem dX11_liar_40 : decode cX11_liar 40 = .ok (.getfield 31, 3) := by decide +kernel
theorem dX11_liar_43 : decode cX11_liar 43 = .ok (.getfield 260, 3) := by decide +kernel
theorem dX11_liar_46 : decode cX11_liar 46 = .ok (.ireturn, 1) := by decide +kernel
theorem dX11_seed_0 : decode cX11_seed 0 = .ok (.aload_n 0, 1) := by decide +kernel
theorem dX11_seed_1 : decode cX11_seed 1 = .ok (.getfield 66, 3) := by decide +kernel
theorem dX11_seed_4 : decode cX11_seed 4 = .ok (.getfield 263, 3) := by decide +kernel
theorem dX11_seed_7 : decode cX11_seed 7 = .ok (.istore_n 2, 1) := by decide +kernel
theorem dX11_seed_8 : decode cX11_seed 8 = .ok (.aload_n 0, 1) := by decide +kernel
theorem dX11_seed_9 : decode cX11_seed 9 = .ok (.getfield 66, 3) := by decide +kernel
theorem dX11_seed_12 : decode cX11_seed 12 = .ok (.iload_n 1, 1) := by decide +kernel
theorem dX11_seed_13 : decode cX11_seed 13 = .ok (.putfield 263, 3) := by decide +kernel
theorem dX11_seed_16 : decode cX11_seed 16 = .ok (.iload_n 2, 1) := by decide +kernel
theorem dX11_seed_17 : decode cX11_seed 17 = .ok (.ireturn, 1) := by decide +kernel
theorem dX11_lot_0 : decode cX11_lot 0 = .ok (.aload_n 0, 1) := by decide +kernel
theorem dX11_lot_1 : decode cX11_lot 1 = .ok (.getfield 66, 3) := by decide +kernel
theorem dX11_lot_4 : decode cX11_lot 4 = .ok (.invokevirtual 153, 3) := by decide +kernel
theorem dX11_lot_7 : decode cX11_lot 7 = .ok (.ifCond .eq 8, 3) := by decide +kernel
theorem dX11_lot_10 : decode cX11_lot 10 = .ok (.bipush (-4), 2) := by decide +kernel
theorem dX11_lot_12 : decode cX11_lot 12 = .ok (.goto 17, 3) := by decide +kernel
theorem dX11_lot_15 : decode cX11_lot 15 = .ok (.aload_n 0, 1) := by decide +kernel
theorem dX11_lot_16 : decode cX11_lot 16 = .ok (.getfield 66, 3) := by decide +kernel
theorem dX11_lot_19 : decode cX11_lot 19 = .ok (.aload_n 0, 1) := by decide +kernel
theorem dX11_lot_20 : decode cX11_lot 20 = .ok (.getfield 66, 3) := by decide +kernel
theorem dX11_lot_23 : decode cX11_lot 23 = .ok (.invokevirtual 266, 3) := by decide +kernel
theorem dX11_lot_26 : decode cX11_lot 26 = .ok (.invokevirtual 177, 3) := by decide +kernel
theorem dX11_lot_29 : decode cX11_lot 29 = .ok (.ireturn, 1) := by decide +kernel
theorem dX11_times_0 : decode cX11_times 0 = .ok (.iload_n 1, 1) := by decide +kernel
theorem dX11_times_1 : decode cX11_times 1 = .ok (.iconst 1, 1) := by decide +kernel
theorem dX11_times_2 : decode cX11_times 2 = .ok (.if_icmp .lt 20, 3) := by decide +kernel
theorem dX11_times_5 : decode cX11_times 5 = .ok (.iload_n 1, 1) := by decide +kernel
theorem dX11_times_6 : decode cX11_times 6 = .ok (.bipush 40, 2) := by decide +kernel
theorem dX11_times_8 : decode cX11_times 8 = .ok (.if_icmp .gt 14, 3) := by decide +kernel
theorem dX11_times_11 : decode cX11_times 11 = .ok (.iload_n 2, 1) := by decide +kernel
theorem dX11_times_12 : decode cX11_times 12 = .ok (.ifCond .lt 10, 3) := by decide +kernel
theorem dX11_times_15 : decode cX11_times 15 = .ok (.iload_n 2, 1) := by decide +kernel
theorem dX11_times_16 : decode cX11_times 16 = .ok (.sipush 999, 3) := by decide +kernel
theorem dX11_times_19 : decode cX11_times 19 = .ok (.if_icmp .le 5, 3) := by decide +kernel
theorem dX11_times_22 : decode cX11_times 22 = .ok (.iconst (-1), 1) := by decide +kernel
theorem dX11_times_23 : decode cX11_times 23 = .ok (.ireturn, 1) := by decide +kernel
theorem dX11_times_24 : decode cX11_times 24 = .ok (.aload_n 0, 1) := by decide +kernel
theorem dX11_times_25 : decode cX11_times 25 = .ok (.getfield 73, 3) := by decide +kernel
theorem dX11_times_28 : decode cX11_times 28 = .ok (.aload_n 0, 1) := by decide +kernel
theorem dX11_times_29 : decode cX11_times 29 = .ok (.getfield 66, 3) := by decide +kernel
theorem dX11_times_32 : decode cX11_times 32 = .ok (.invokevirtual 180, 3) := by decide +kernel
theorem dX11_times_35 : decode cX11_times 35 = .ok (.iconst 0, 1) := by decide +kernel
theorem dX11_times_36 : decode cX11_times 36 = .ok (.istore_n 3, 1) := by decide +kernel
theorem dX11_times_37 : decode cX11_times 37 = .ok (.iconst 0, 1) := by decide +kernel
theorem dX11_times_38 : decode cX11_times 38 = .ok (.istore 4, 2) := by decide +kernel
theorem dX11_times_40 : decode cX11_times 40 = .ok (.iload 4, 2) := by decide +kernel
theorem dX11_times_42 : decode cX11_times 42 = .ok (.iload_n 1, 1) := by decide +kernel
theorem dX11_times_43 : decode cX11_times 43 = .ok (.if_icmp .ge 34, 3) := by decide +kernel
theorem dX11_times_46 : decode cX11_times 46 = .ok (.aload_n 0, 1) := by decide +kernel
theorem dX11_times_47 : decode cX11_times 47 = .ok (.getfield 73, 3) := by decide +kernel
theorem dX11_times_50 : decode cX11_times 50 = .ok (.aload_n 0, 1) := by decide +kernel
theorem dX11_times_51 : decode cX11_times 51 = .ok (.getfield 66, 3) := by decide +kernel
theorem dX11_times_54 : decode cX11_times 54 = .ok (.invokevirtual 269, 3) := by decide +kernel
theorem dX11_times_57 : decode cX11_times 57 = .ok (.aload_n 0, 1) := by decide +kernel
theorem dX11_times_58 : decode cX11_times 58 = .ok (.getfield 73, 3) := by decide +kernel
theorem dX11_times_61 : decode cX11_times 61 = .ok (.invokevirtual 272, 3) := by decide +kernel
theorem dX11_times_64 : decode cX11_times 64 = .ok (.iload_n 2, 1) := by decide +kernel
theorem dX11_times_65 : decode cX11_times 65 = .ok (.if_icmp .lt 6, 3) := by decide +kernel
theorem dX11_times_68 : decode cX11_times 68 = .ok (.iinc 3 1, 3) := by decide +kernel
theorem dX11_times_71 : decode cX11_times 71 = .ok (.iinc 4 1, 3) := by decide +kernel
theorem dX11_times_74 : decode cX11_times 74 = .ok (.goto (-34), 3) := by decide +kernel
theorem dX11_times_77 : decode cX11_times 77 = .ok (.iload_n 3, 1) := by decide +kernel
theorem dX11_times_78 : decode cX11_times 78 = .ok (.ireturn, 1) := by decide +kernel
theorem dX11_prove_0 : decode cX11_prove 0 = .ok (.iload_n 1, 1) := by decide +kernel
theorem dX11_prove_1 : decode cX11_prove 1 = .ok (.ifCond .lt 8, 3) := by decide +kernel
theorem dX11_prove_4 : decode cX11_prove 4 = .ok (.iload_n 1, 1) := by decide +kernel
theorem dX11_prove_5 : decode cX11_prove 5 = .ok (.iconst 4, 1) := by decide +kernel
theorem dX11_prove_6 : decode cX11_prove 6 = .ok (.if_icmp .le 5, 3) := by decide +kernel
theorem dX11_prove_9 : decode cX11_prove 9 = .ok (.iconst (-1), 1) := by decide +kernel
theorem dX11_prove_10 : decode cX11_prove 10 = .ok (.ireturn, 1) := by decide +kernel
theorem dX11_prove_11 : decode cX11_prove 11 = .ok (.aload_n 0, 1) := by decide +kernel
theorem dX11_prove_12 : decode cX11_prove 12 = .ok (.getfield 79, 3) := by decide +kernel
theorem dX11_prove_15 : decode cX11_prove 15 = .ok (.aload_n 0, 1) := by decide +kernel
theorem dX11_prove_16 : decode cX11_prove 16 = .ok (.getfield 66, 3) := by decide +kernel
theorem dX11_prove_19 : decode cX11_prove 19 = .ok (.iload_n 1, 1) := by decide +kernel
theorem dX11_prove_20 : decode cX11_prove 20 = .ok (.iconst 0, 1) := by decide +kernel
theorem dX11_prove_21 : decode cX11_prove 21 = .ok (.invokevirtual 205, 3) := by decide +kernel
theorem dX11_prove_24 : decode cX11_prove 24 = .ok (.aload_n 0, 1) := by decide +kernel
theorem dX11_prove_25 : decode cX11_prove 25 = .ok (.getfield 73, 3) := by decide +kernel
theorem dX11_prove_28 : decode cX11_prove 28 = .ok (.aload_n 0, 1) := by decide +kernel
theorem dX11_prove_29 : decode cX11_prove 29 = .ok (.getfield 66, 3) := by decide +kernel
theorem dX11_prove_32 : decode cX11_prove 32 = .ok (.invokevirtual 180, 3) := by decide +kernel
theorem dX11_prove_35 : decode cX11_prove 35 = .ok (.aload_n 0, 1) := by decide +kernel
theorem dX11_prove_36 : decode cX11_prove 36 = .ok (.aload_n 0, 1) := by decide +kernel
theorem dX11_prove_37 : decode cX11_prove 37 = .ok (.getfield 79, 3) := by decide +kernel
theorem dX11_prove_40 : decode cX11_prove 40 = .ok (.getfield 212, 3) := by decide +kernel
theorem dX11_prove_43 : decode cX11_prove 43 = .ok (.putfield 275, 3) := by decide +kernel
theorem dX11_prove_46 : decode cX11_prove 46 = .ok (.iconst 0, 1) := by decide +kernel
theorem dX11_prove_47 : decode cX11_prove 47 = .ok (.istore_n 2, 1) := by decide +kernel
theorem dX11_prove_48 : decode cX11_prove 48 = .ok (.iload_n 2, 1) := by decide +kernel
theorem dX11_prove_49 : decode cX11_prove 49 = .ok (.aload_n 0, 1) := by decide +kernel
theorem dX11_prove_50 : decode cX11_prove 50 = .ok (.getfield 275, 3) := by decide +kernel
theorem dX11_prove_53 : decode cX11_prove 53 = .ok (.if_icmp .ge 65, 3) := by decide +kernel
theorem dX11_prove_56 : decode cX11_prove 56 = .ok (.aload_n 0, 1) := by decide +kernel
theorem dX11_prove_57 : decode cX11_prove 57 = .ok (.getfield 40, 3) := by decide +kernel
theorem dX11_prove_60 : decode cX11_prove 60 = .ok (.iload_n 2, 1) := by decide +kernel
theorem dX11_prove_61 : decode cX11_prove 61 = .ok (.aaload, 1) := by decide +kernel
theorem dX11_prove_62 : decode cX11_prove 62 = .ok (.iconst 0, 1) := by decide +kernel
theorem dX11_prove_63 : decode cX11_prove 63 = .ok (.aload_n 0, 1) := by decide +kernel
theorem dX11_prove_64 : decode cX11_prove 64 = .ok (.getfield 79, 3) := by decide +kernel
theorem dX11_prove_67 : decode cX11_prove 67 = .ok (.getfield 215, 3) := by decide +kernel
theorem dX11_prove_70 : decode cX11_prove 70 = .ok (.iload_n 2, 1) := by decide +kernel
theorem dX11_prove_71 : decode cX11_prove 71 = .ok (.iaload, 1) := by decide +kernel
theorem dX11_prove_72 : decode cX11_prove 72 = .ok (.iastore, 1) := by decide +kernel
theorem dX11_prove_73 : decode cX11_prove 73 = .ok (.aload_n 0, 1) := by decide +kernel
theorem dX11_prove_74 : decode cX11_prove 74 = .ok (.getfield 40, 3) := by decide +kernel
theorem dX11_prove_77 : decode cX11_prove 77 = .ok (.iload_n 2, 1) := by decide +kernel
theorem dX11_prove_78 : decode cX11_prove 78 = .ok (.aaload, 1) := by decide +kernel
theorem dX11_prove_79 : decode cX11_prove 79 = .ok (.iconst 1, 1) := by decide +kernel
theorem dX11_prove_80 : decode cX11_prove 80 = .ok (.aload_n 0, 1) := by decide +kernel
theorem dX11_prove_81 : decode cX11_prove 81 = .ok (.getfield 73, 3) := by decide +kernel
theorem dX11_prove_84 : decode cX11_prove 84 = .ok (.aload_n 0, 1) := by decide +kernel
theorem dX11_prove_85 : decode cX11_prove 85 = .ok (.getfield 79, 3) := by decide +kernel
theorem dX11_prove_88 : decode cX11_prove 88 = .ok (.getfield 215, 3) := by decide +kernel
theorem dX11_prove_91 : decode cX11_prove 91 = .ok (.iload_n 2, 1) := by decide +kernel
theorem dX11_prove_92 : decode cX11_prove 92 = .ok (.iaload, 1) := by decide +kernel
theorem dX11_prove_93 : decode cX11_prove 93 = .ok (.invokevirtual 177, 3) := by decide +kernel
theorem dX11_prove_96 : decode cX11_prove 96 = .ok (.iastore, 1) := by decide +kernel
theorem dX11_prove_97 : decode cX11_prove 97 = .ok (.aload_n 0, 1) := by decide +kernel
theorem dX11_prove_98 : decode cX11_prove 98 = .ok (.getfield 40, 3) := by decide +kernel
theorem dX11_prove_101 : decode cX11_prove 101 = .ok (.iload_n 2, 1) := by decide +kernel
theorem dX11_prove_102 : decode cX11_prove 102 = .ok (.aaload, 1) := by decide +kernel
theorem dX11_prove_103 : decode cX11_prove 103 = .ok (.iconst 2, 1) := by decide +kernel
theorem dX11_prove_104 : decode cX11_prove 104 = .ok (.aload_n 0, 1) := by decide +kernel
theorem dX11_prove_105 : decode cX11_prove 105 = .ok (.getfield 73, 3) := by decide +kernel
theorem dX11_prove_108 : decode cX11_prove 108 = .ok (.invokevirtual 157, 3) := by decide +kernel
theorem dX11_prove_111 : decode cX11_prove 111 = .ok (.iastore, 1) := by decide +kernel
theorem dX11_prove_112 : decode cX11_prove 112 = .ok (.iinc 2 1, 3) := by decide +kernel
theorem dX11_prove_115 : decode cX11_prove 115 = .ok (.goto (-67), 3) := by decide +kernel
theorem dX11_prove_118 : decode cX11_prove 118 = .ok (.aload_n 0, 1) := by decide +kernel
theorem dX11_prove_119 : decode cX11_prove 119 = .ok (.getfield 275, 3) := by decide +kernel
theorem dX11_prove_122 : decode cX11_prove 122 = .ok (.ireturn, 1) := by decide +kernel
theorem dX11_row_0 : decode cX11_row 0 = .ok (.aload_n 0, 1) := by decide +kernel
theorem dX11_row_1 : decode cX11_row 1 = .ok (.iload_n 1, 1) := by decide +kernel
theorem dX11_row_2 : decode cX11_row 2 = .ok (.iload_n 2, 1) := by decide +kernel
theorem dX11_row_3 : decode cX11_row 3 = .ok (.invokevirtual 278, 3) := by decide +kernel
theorem dX11_row_6 : decode cX11_row 6 = .ok (.ifCond .eq 14, 3) := by decide +kernel
theorem dX11_row_9 : decode cX11_row 9 = .ok (.aload_n 0, 1) := by decide +kernel
theorem dX11_row_10 : decode cX11_row 10 = .ok (.getfield 40, 3) := by decide +kernel
theorem dX11_row_13 : decode cX11_row 13 = .ok (.iload_n 1, 1) := by decide +kernel
theorem dX11_row_14 : decode cX11_row 14 = .ok (.aaload, 1) := by decide +kernel
theorem dX11_row_15 : decode cX11_row 15 = .ok (.iload_n 2, 1) := by decide +kernel
theorem dX11_row_16 : decode cX11_row 16 = .ok (.iaload, 1) := by decide +kernel
theorem dX11_row_17 : decode cX11_row 17 = .ok (.goto 5, 3) := by decide +kernel
theorem dX11_row_20 : decode cX11_row 20 = .ok (.bipush (-9), 2) := by decide +kernel
theorem dX11_row_22 : decode cX11_row 22 = .ok (.ireturn, 1) := by decide +kernel
theorem dX11_alterRow_0 : decode cX11_alterRow 0 = .ok (.aload_n 0, 1) := by decide +kernel
theorem dX11_alterRow_1 : decode cX11_alterRow 1 = .ok (.iload_n 1, 1) := by decide +kernel
theorem dX11_alterRow_2 : decode cX11_alterRow 2 = .ok (.iload_n 2, 1) := by decide +kernel
theorem dX11_alterRow_3 : decode cX11_alterRow 3 = .ok (.invokevirtual 278, 3) := by decide +kernel
theorem dX11_alterRow_6 : decode cX11_alterRow 6 = .ok (.ifCond .ne 6, 3) := by decide +kernel
theorem dX11_alterRow_9 : decode cX11_alterRow 9 = .ok (.bipush (-9), 2) := by decide +kernel
theorem dX11_alterRow_11 : decode cX11_alterRow 11 = .ok (.ireturn, 1) := by decide +kernel
theorem dX11_alterRow_12 : decode cX11_alterRow 12 = .ok (.aload_n 0, 1) := by decide +kernel
theorem dX11_alterRow_13 : decode cX11_alterRow 13 = .ok (.getfield 40, 3) := by decide +kernel
theorem dX11_alterRow_16 : decode cX11_alterRow 16 = .ok (.iload_n 1, 1) := by decide +kernel
theorem dX11_alterRow_17 : decode cX11_alterRow 17 = .ok (.aaload, 1) := by decide +kernel
theorem dX11_alterRow_18 : decode cX11_alterRow 18 = .ok (.iload_n 2, 1) := by decide +kernel
theorem dX11_alterRow_19 : decode cX11_alterRow 19 = .ok (.iaload, 1) := by decide +kernel
theorem dX11_alterRow_20 : decode cX11_alterRow 20 = .ok (.istore 4, 2) := by decide +kernel
theorem dX11_alterRow_22 : decode cX11_alterRow 22 = .ok (.aload_n 0, 1) := by decide +kernel
theorem dX11_alterRow_23 : decode cX11_alterRow 23 = .ok (.getfield 40, 3) := by decide +kernel
theorem dX11_alterRow_26 : decode cX11_alterRow 26 = .ok (.iload_n 1, 1) := by decide +kernel
theorem dX11_alterRow_27 : decode cX11_alterRow 27 = .ok (.aaload, 1) := by decide +kernel
theorem dX11_alterRow_28 : decode cX11_alterRow 28 = .ok (.iload_n 2, 1) := by decide +kernel
theorem dX11_alterRow_29 : decode cX11_alterRow 29 = .ok (.iload_n 3, 1) := by decide +kernel
theorem dX11_alterRow_30 : decode cX11_alterRow 30 = .ok (.iastore, 1) := by decide +kernel
theorem dX11_alterRow_31 : decode cX11_alterRow 31 = .ok (.iload 4, 2) := by decide +kernel
theorem dX11_alterRow_33 : decode cX11_alterRow 33 = .ok (.ireturn, 1) := by decide +kernel
theorem dX11_judge_0 : decode cX11_judge 0 = .ok (.aload_n 0, 1) := by decide +kernel
theorem dX11_judge_1 : decode cX11_judge 1 = .ok (.getfield 73, 3) := by decide +kernel
theorem dX11_judge_4 : decode cX11_judge 4 = .ok (.aload_n 0, 1) := by decide +kernel
theorem dX11_judge_5 : decode cX11_judge 5 = .ok (.getfield 66, 3) := by decide +kernel
theorem dX11_judge_8 : decode cX11_judge 8 = .ok (.invokevirtual 180, 3) := by decide +kernel
theorem dX11_judge_11 : decode cX11_judge 11 = .ok (.iconst 0, 1) := by decide +kernel
theorem dX11_judge_12 : decode cX11_judge 12 = .ok (.istore_n 1, 1) := by decide +kernel
theorem dX11_judge_13 : decode cX11_judge 13 = .ok (.iload_n 1, 1) := by decide +kernel
theorem dX11_judge_14 : decode cX11_judge 14 = .ok (.aload_n 0, 1) := by decide +kernel
theorem dX11_judge_15 : decode cX11_judge 15 = .ok (.getfield 275, 3) := by decide +kernel
theorem dX11_judge_18 : decode cX11_judge 18 = .ok (.if_icmp .ge 84, 3) := by decide +kernel
theorem dX11_judge_21 : decode cX11_judge 21 = .ok (.aload_n 0, 1) := by decide +kernel
theorem dX11_judge_22 : decode cX11_judge 22 = .ok (.getfield 40, 3) := by decide +kernel
theorem dX11_judge_25 : decode cX11_judge 25 = .ok (.iload_n 1, 1) := by decide +kernel
theorem dX11_judge_26 : decode cX11_judge 26 = .ok (.aaload, 1) := by decide +kernel
theorem dX11_judge_27 : decode cX11_judge 27 = .ok (.iconst 0, 1) := by decide +kernel
theorem dX11_judge_28 : decode cX11_judge 28 = .ok (.iaload, 1) := by decide +kernel
theorem dX11_judge_29 : decode cX11_judge 29 = .ok (.istore_n 2, 1) := by decide +kernel
theorem dX11_judge_30 : decode cX11_judge 30 = .ok (.aload_n 0, 1) := by decide +kernel
theorem dX11_judge_31 : decode cX11_judge 31 = .ok (.getfield 73, 3) := by decide +kernel
theorem dX11_judge_34 : decode cX11_judge 34 = .ok (.invokevirtual 153, 3) := by decide +kernel
theorem dX11_judge_37 : decode cX11_judge 37 = .ok (.ifCond .ne 14, 3) := by decide +kernel
theorem dX11_judge_40 : decode cX11_judge 40 = .ok (.aload_n 0, 1) := by decide +kernel
theorem dX11_judge_41 : decode cX11_judge 41 = .ok (.getfield 73, 3) := by decide +kernel
theorem dX11_judge_44 : decode cX11_judge 44 = .ok (.iload_n 2, 1) := by decide +kernel
theorem dX11_judge_45 : decode cX11_judge 45 = .ok (.invokevirtual 281, 3) := by decide +kernel
theorem dX11_judge_48 : decode cX11_judge 48 = .ok (.ifCond .ne 7, 3) := by decide +kernel
theorem dX11_judge_51 : decode cX11_judge 51 = .ok (.iload_n 1, 1) := by decide +kernel
theorem dX11_judge_52 : decode cX11_judge 52 = .ok (.iconst 1, 1) := by decide +kernel
theorem dX11_judge_53 : decode cX11_judge 53 = .ok (.iadd, 1) := by decide +kernel
theorem dX11_judge_54 : decode cX11_judge 54 = .ok (.ireturn, 1) := by decide +kernel
theorem dX11_judge_55 : decode cX11_judge 55 = .ok (.aload_n 0, 1) := by decide +kernel
theorem dX11_judge_56 : decode cX11_judge 56 = .ok (.getfield 73, 3) := by decide +kernel
theorem dX11_judge_59 : decode cX11_judge 59 = .ok (.iload_n 2, 1) := by decide +kernel
theorem dX11_judge_60 : decode cX11_judge 60 = .ok (.invokevirtual 177, 3) := by decide +kernel
theorem dX11_judge_63 : decode cX11_judge 63 = .ok (.aload_n 0, 1) := by decide +kernel
theorem dX11_judge_64 : decode cX11_judge 64 = .ok (.getfield 40, 3) := by decide +kernel
theorem dX11_judge_67 : decode cX11_judge 67 = .ok (.iload_n 1, 1) := by decide +kernel
theorem dX11_judge_68 : decode cX11_judge 68 = .ok (.aaload, 1) := by decide +kernel
theorem dX11_judge_69 : decode cX11_judge 69 = .ok (.iconst 1, 1) := by decide +kernel
theorem dX11_judge_70 : decode cX11_judge 70 = .ok (.iaload, 1) := by decide +kernel
theorem dX11_judge_71 : decode cX11_judge 71 = .ok (.if_icmp .ne 21, 3) := by decide +kernel
theorem dX11_judge_74 : decode cX11_judge 74 = .ok (.aload_n 0, 1) := by decide +kernel
theorem dX11_judge_75 : decode cX11_judge 75 = .ok (.getfield 73, 3) := by decide +kernel
theorem dX11_judge_78 : decode cX11_judge 78 = .ok (.invokevirtual 157, 3) := by decide +kernel
theorem dX11_judge_81 : decode cX11_judge 81 = .ok (.aload_n 0, 1) := by decide +kernel
theorem dX11_judge_82 : decode cX11_judge 82 = .ok (.getfield 40, 3) := by decide +kernel
theorem dX11_judge_85 : decode cX11_judge 85 = .ok (.iload_n 1, 1) := by decide +kernel
theorem dX11_judge_86 : decode cX11_judge 86 = .ok (.aaload, 1) := by decide +kernel
theorem dX11_judge_87 : decode cX11_judge 87 = .ok (.iconst 2, 1) := by decide +kernel
theorem dX11_judge_88 : decode cX11_judge 88 = .ok (.iaload, 1) := by decide +kernel
theorem dX11_judge_89 : decode cX11_judge 89 = .ok (.if_icmp .eq 7, 3) := by decide +kernel
theorem dX11_judge_92 : decode cX11_judge 92 = .ok (.iload_n 1, 1) := by decide +kernel
theorem dX11_judge_93 : decode cX11_judge 93 = .ok (.iconst 1, 1) := by decide +kernel
theorem dX11_judge_94 : decode cX11_judge 94 = .ok (.iadd, 1) := by decide +kernel
theorem dX11_judge_95 : decode cX11_judge 95 = .ok (.ireturn, 1) := by decide +kernel
theorem dX11_judge_96 : decode cX11_judge 96 = .ok (.iinc 1 1, 3) := by decide +kernel
theorem dX11_judge_99 : decode cX11_judge 99 = .ok (.goto (-86), 3) := by decide +kernel
theorem dX11_judge_102 : decode cX11_judge 102 = .ok (.iconst 0, 1) := by decide +kernel
theorem dX11_judge_103 : decode cX11_judge 103 = .ok (.ireturn, 1) := by decide +kernel
theorem dX11_sheet_0 : decode cX11_sheet 0 = .ok (.iload_n 1, 1) := by decide +kernel
theorem dX11_sheet_1 : decode cX11_sheet 1 = .ok (.invokestatic 284, 3) := by decide +kernel
theorem dX11_sheet_4 : decode cX11_sheet 4 = .ok (.ifCond .eq 13, 3) := by decide +kernel
theorem dX11_sheet_7 : decode cX11_sheet 7 = .ok (.iload_n 2, 1) := by decide +kernel
theorem dX11_sheet_8 : decode cX11_sheet 8 = .ok (.iconst (-1), 1) := by decide +kernel
theorem dX11_sheet_9 : decode cX11_sheet 9 = .ok (.if_icmp .lt 8, 3) := by decide +kernel
theorem dX11_sheet_12 : decode cX11_sheet 12 = .ok (.iload_n 2, 1) := by decide +kernel
theorem dX11_sheet_13 : decode cX11_sheet 13 = .ok (.iconst 4, 1) := by decide +kernel
theorem dX11_sheet_14 : decode cX11_sheet 14 = .ok (.if_icmp .le 5, 3) := by decide +kernel
theorem dX11_sheet_17 : decode cX11_sheet 17 = .ok (.iconst (-1), 1) := by decide +kernel
theorem dX11_sheet_18 : decode cX11_sheet 18 = .ok (.ireturn, 1) := by decide +kernel
theorem dX11_sheet_19 : decode cX11_sheet 19 = .ok (.iload_n 2, 1) := by decide +kernel
theorem dX11_sheet_20 : decode cX11_sheet 20 = .ok (.iconst (-1), 1) := by decide +kernel
theorem dX11_sheet_21 : decode cX11_sheet 21 = .ok (.if_icmp .eq 11, 3) := by decide +kernel
theorem dX11_sheet_24 : decode cX11_sheet 24 = .ok (.iload_n 3, 1) := by decide +kernel
theorem dX11_sheet_25 : decode cX11_sheet 25 = .ok (.bipush 40, 2) := by decide +kernel
theorem dX11_sheet_27 : decode cX11_sheet 27 = .ok (.if_icmp .le 5, 3) := by decide +kernel
theorem dX11_sheet_30 : decode cX11_sheet 30 = .ok (.iconst (-1), 1) := by decide +kernel
theorem dX11_sheet_31 : decode cX11_sheet 31 = .ok (.ireturn, 1) := by decide +kernel
theorem dX11_sheet_32 : decode cX11_sheet 32 = .ok (.iload_n 2, 1) := by decide +kernel
theorem dX11_sheet_33 : decode cX11_sheet 33 = .ok (.iconst (-1), 1) := by decide +kernel
theorem dX11_sheet_34 : decode cX11_sheet 34 = .ok (.if_icmp .eq 10, 3) := by decide +kernel
theorem dX11_sheet_37 : decode cX11_sheet 37 = .ok (.iload_n 3, 1) := by decide +kernel
theorem dX11_sheet_38 : decode cX11_sheet 38 = .ok (.ifCond .ge 6, 3) := by decide +kernel
theorem dX11_sheet_41 : decode cX11_sheet 41 = .ok (.bipush (-14), 2) := by decide +kernel
theorem dX11_sheet_43 : decode cX11_sheet 43 = .ok (.ireturn, 1) := by decide +kernel
theorem dX11_sheet_44 : decode cX11_sheet 44 = .ok (.aload_n 0, 1) := by decide +kernel
theorem dX11_sheet_45 : decode cX11_sheet 45 = .ok (.getfield 88, 3) := by decide +kernel
theorem dX11_sheet_48 : decode cX11_sheet 48 = .ok (.iload_n 1, 1) := by decide +kernel
theorem dX11_sheet_49 : decode cX11_sheet 49 = .ok (.iload_n 2, 1) := by decide +kernel
theorem dX11_sheet_50 : decode cX11_sheet 50 = .ok (.iload_n 2, 1) := by decide +kernel
theorem dX11_sheet_51 : decode cX11_sheet 51 = .ok (.iconst (-1), 1) := by decide +kernel
theorem dX11_sheet_52 : decode cX11_sheet 52 = .ok (.if_icmp .ne 7, 3) := by decide +kernel
theorem dX11_sheet_55 : decode cX11_sheet 55 = .ok (.iconst 0, 1) := by decide +kernel
theorem dX11_sheet_56 : decode cX11_sheet 56 = .ok (.goto 4, 3) := by decide +kernel
theorem dX11_sheet_59 : decode cX11_sheet 59 = .ok (.iload_n 3, 1) := by decide +kernel
theorem dX11_sheet_60 : decode cX11_sheet 60 = .ok (.invokevirtual 287, 3) := by decide +kernel
theorem dX11_sheet_63 : decode cX11_sheet 63 = .ok (.iconst 1, 1) := by decide +kernel
theorem dX11_sheet_64 : decode cX11_sheet 64 = .ok (.ireturn, 1) := by decide +kernel
theorem dX11_write_0 : decode cX11_write 0 = .ok (.iload_n 1, 1) := by decide +kernel
theorem dX11_write_1 : decode cX11_write 1 = .ok (.invokestatic 284, 3) := by decide +kernel
theorem dX11_write_4 : decode cX11_write 4 = .ok (.ifCond .ne 5, 3) := by decide +kernel
theorem dX11_write_7 : decode cX11_write 7 = .ok (.iconst (-1), 1) := by decide +kernel
theorem dX11_write_8 : decode cX11_write 8 = .ok (.ireturn, 1) := by decide +kernel
theorem dX11_write_9 : decode cX11_write 9 = .ok (.aload_n 0, 1) := by decide +kernel
theorem dX11_write_10 : decode cX11_write 10 = .ok (.getfield 88, 3) := by decide +kernel
theorem dX11_write_13 : decode cX11_write 13 = .ok (.getfield 291, 3) := by decide +kernel
theorem dX11_write_16 : decode cX11_write 16 = .ok (.iload_n 1, 1) := by decide +kernel
theorem dX11_write_17 : decode cX11_write 17 = .ok (.iaload, 1) := by decide +kernel
theorem dX11_write_18 : decode cX11_write 18 = .ok (.iconst (-1), 1) := by decide +kernel
theorem dX11_write_19 : decode cX11_write 19 = .ok (.if_icmp .ne 6, 3) := by decide +kernel
theorem dX11_write_22 : decode cX11_write 22 = .ok (.bipush (-11), 2) := by decide +kernel
theorem dX11_write_24 : decode cX11_write 24 = .ok (.ireturn, 1) := by decide +kernel
theorem dX11_write_25 : decode cX11_write 25 = .ok (.aload_n 0, 1) := by decide +kernel
theorem dX11_write_26 : decode cX11_write 26 = .ok (.getfield 88, 3) := by decide +kernel
theorem dX11_write_29 : decode cX11_write 29 = .ok (.iload_n 1, 1) := by decide +kernel
theorem dX11_write_30 : decode cX11_write 30 = .ok (.iload_n 2, 1) := by decide +kernel
theorem dX11_write_31 : decode cX11_write 31 = .ok (.invokevirtual 294, 3) := by decide +kernel
theorem dX11_write_34 : decode cX11_write 34 = .ok (.ifCond .ne 6, 3) := by decide +kernel
theorem dX11_write_37 : decode cX11_write 37 = .ok (.bipush (-12), 2) := by decide +kernel
theorem dX11_write_39 : decode cX11_write 39 = .ok (.ireturn, 1) := by decide +kernel
theorem dX11_write_40 : decode cX11_write 40 = .ok (.aload_n 0, 1) := by decide +kernel
theorem dX11_write_41 : decode cX11_write 41 = .ok (.getfield 88, 3) := by decide +kernel
theorem dX11_write_44 : decode cX11_write 44 = .ok (.getfield 297, 3) := by decide +kernel
theorem dX11_write_47 : decode cX11_write 47 = .ok (.iload_n 1, 1) := by decide +kernel
theorem dX11_write_48 : decode cX11_write 48 = .ok (.aaload, 1) := by decide +kernel
theorem dX11_write_49 : decode cX11_write 49 = .ok (.iload_n 2, 1) := by decide +kernel
theorem dX11_write_50 : decode cX11_write 50 = .ok (.aload_n 0, 1) := by decide +kernel
theorem dX11_write_51 : decode cX11_write 51 = .ok (.getfield 88, 3) := by decide +kernel
theorem dX11_write_54 : decode cX11_write 54 = .ok (.aload_n 0, 1) := by decide +kernel
theorem dX11_write_55 : decode cX11_write 55 = .ok (.getfield 88, 3) := by decide +kernel
theorem dX11_write_58 : decode cX11_write 58 = .ok (.getfield 291, 3) := by decide +kernel
theorem dX11_write_61 : decode cX11_write 61 = .ok (.iload_n 1, 1) := by decide +kernel
theorem dX11_write_62 : decode cX11_write 62 = .ok (.iaload, 1) := by decide +kernel
theorem dX11_write_63 : decode cX11_write 63 = .ok (.iload_n 3, 1) := by decide +kernel
theorem dX11_write_64 : decode cX11_write 64 = .ok (.invokevirtual 300, 3) := by decide +kernel
theorem dX11_write_67 : decode cX11_write 67 = .ok (.iastore, 1) := by decide +kernel
theorem dX11_write_68 : decode cX11_write 68 = .ok (.iconst 1, 1) := by decide +kernel
theorem dX11_write_69 : decode cX11_write 69 = .ok (.ireturn, 1) := by decide +kernel
theorem dX11_item_0 : decode cX11_item 0 = .ok (.iload_n 1, 1) := by decide +kernel
theorem dX11_item_1 : decode cX11_item 1 = .ok (.invokestatic 284, 3) := by decide +kernel
theorem dX11_item_4 : decode cX11_item 4 = .ok (.ifCond .eq 12, 3) := by decide +kernel
theorem dX11_item_7 : decode cX11_item 7 = .ok (.iload_n 2, 1) := by decide +kernel
theorem dX11_item_8 : decode cX11_item 8 = .ok (.ifCond .lt 8, 3) := by decide +kernel
theorem dX11_item_11 : decode cX11_item 11 = .ok (.iload_n 2, 1) := by decide +kernel
theorem dX11_item_12 : decode cX11_item 12 = .ok (.iconst 4, 1) := by decide +kernel
theorem dX11_item_13 : decode cX11_item 13 = .ok (.if_icmp .le 5, 3) := by decide +kernel
theorem dX11_item_16 : decode cX11_item 16 = .ok (.iconst (-1), 1) := by decide +kernel
theorem dX11_item_17 : decode cX11_item 17 = .ok (.ireturn, 1) := by decide +kernel
theorem dX11_item_18 : decode cX11_item 18 = .ok (.aload_n 0, 1) := by decide +kernel
theorem dX11_item_19 : decode cX11_item 19 = .ok (.getfield 88, 3) := by decide +kernel
theorem dX11_item_22 : decode cX11_item 22 = .ok (.iload_n 1, 1) := by decide +kernel
theorem dX11_item_23 : decode cX11_item 23 = .ok (.iload_n 2, 1) := by decide +kernel
theorem dX11_item_24 : decode cX11_item 24 = .ok (.invokevirtual 303, 3) := by decide +kernel
theorem dX11_item_27 : decode cX11_item 27 = .ok (.istore 4, 2) := by decide +kernel
theorem dX11_item_29 : decode cX11_item 29 = .ok (.iload 4, 2) := by decide +kernel
theorem dX11_item_31 : decode cX11_item 31 = .ok (.ifCond .ge 6, 3) := by decide +kernel
theorem dX11_item_34 : decode cX11_item 34 = .ok (.iload 4, 2) := by decide +kernel
theorem dX11_item_36 : decode cX11_item 36 = .ok (.ireturn, 1) := by decide +kernel
theorem dX11_item_37 : decode cX11_item 37 = .ok (.aload_n 0, 1) := by decide +kernel
theorem dX11_item_38 : decode cX11_item 38 = .ok (.getfield 88, 3) := by decide +kernel
theorem dX11_item_41 : decode cX11_item 41 = .ok (.iload_n 1, 1) := by decide +kernel
theorem dX11_item_42 : decode cX11_item 42 = .ok (.iload_n 3, 1) := by decide +kernel
theorem dX11_item_43 : decode cX11_item 43 = .ok (.invokevirtual 294, 3) := by decide +kernel
theorem dX11_item_46 : decode cX11_item 46 = .ok (.ifCond .eq 17, 3) := by decide +kernel
theorem dX11_item_49 : decode cX11_item 49 = .ok (.aload_n 0, 1) := by decide +kernel
theorem dX11_item_50 : decode cX11_item 50 = .ok (.getfield 88, 3) := by decide +kernel
theorem dX11_item_53 : decode cX11_item 53 = .ok (.getfield 297, 3) := by decide +kernel
theorem dX11_item_56 : decode cX11_item 56 = .ok (.iload_n 1, 1) := by decide +kernel
theorem dX11_item_57 : decode cX11_item 57 = .ok (.aaload, 1) := by decide +kernel
theorem dX11_item_58 : decode cX11_item 58 = .ok (.iload_n 3, 1) := by decide +kernel
theorem dX11_item_59 : decode cX11_item 59 = .ok (.iaload, 1) := by decide +kernel
theorem dX11_item_60 : decode cX11_item 60 = .ok (.goto 5, 3) := by decide +kernel
theorem dX11_item_63 : decode cX11_item 63 = .ok (.bipush (-12), 2) := by decide +kernel
theorem dX11_item_65 : decode cX11_item 65 = .ok (.ireturn, 1) := by decide +kernel
theorem dX11_goAll_0 : decode cX11_goAll 0 = .ok (.iload_n 1, 1) := by decide +kernel
theorem dX11_goAll_1 : decode cX11_goAll 1 = .ok (.invokestatic 284, 3) := by decide +kernel
theorem dX11_goAll_4 : decode cX11_goAll 4 = .ok (.ifCond .eq 13, 3) := by decide +kernel
theorem dX11_goAll_7 : decode cX11_goAll 7 = .ok (.iload_n 3, 1) := by decide +kernel
theorem dX11_goAll_8 : decode cX11_goAll 8 = .ok (.ifCond .lt 9, 3) := by decide +kernel
theorem dX11_goAll_11 : decode cX11_goAll 11 = .ok (.iload_n 3, 1) := by decide +kernel
theorem dX11_goAll_12 : decode cX11_goAll 12 = .ok (.bipush 20, 2) := by decide +kernel
theorem dX11_goAll_14 : decode cX11_goAll 14 = .ok (.if_icmp .le 5, 3) := by decide +kernel
theorem dX11_goAll_17 : decode cX11_goAll 17 = .ok (.iconst (-1), 1) := by decide +kernel
theorem dX11_goAll_18 : decode cX11_goAll 18 = .ok (.ireturn, 1) := by decide +kernel
theorem dX11_goAll_19 : decode cX11_goAll 19 = .ok (.aload_n 0, 1) := by decide +kernel
theorem dX11_goAll_20 : decode cX11_goAll 20 = .ok (.getfield 88, 3) := by decide +kernel
theorem dX11_goAll_23 : decode cX11_goAll 23 = .ok (.iload_n 1, 1) := by decide +kernel
theorem dX11_goAll_24 : decode cX11_goAll 24 = .ok (.iconst 0, 1) := by decide +kernel
theorem dX11_goAll_25 : decode cX11_goAll 25 = .ok (.invokevirtual 303, 3) := by decide +kernel
theorem dX11_goAll_28 : decode cX11_goAll 28 = .ok (.istore 4, 2) := by decide +kernel
theorem dX11_goAll_30 : decode cX11_goAll 30 = .ok (.iload 4, 2) := by decide +kernel
theorem dX11_goAll_32 : decode cX11_goAll 32 = .ok (.ifCond .ge 6, 3) := by decide +kernel
theorem dX11_goAll_35 : decode cX11_goAll 35 = .ok (.iload 4, 2) := by decide +kernel
theorem dX11_goAll_37 : decode cX11_goAll 37 = .ok (.ireturn, 1) := by decide +kernel
theorem dX11_goAll_38 : decode cX11_goAll 38 = .ok (.iconst 0, 1) := by decide +kernel
theorem dX11_goAll_39 : decode cX11_goAll 39 = .ok (.istore 5, 2) := by decide +kernel
theorem dX11_goAll_41 : decode cX11_goAll 41 = .ok (.iconst 0, 1) := by decide +kernel
theorem dX11_goAll_42 : decode cX11_goAll 42 = .ok (.istore 6, 2) := by decide +kernel
theorem dX11_goAll_44 : decode cX11_goAll 44 = .ok (.iload 6, 2) := by decide +kernel
theorem dX11_goAll_46 : decode cX11_goAll 46 = .ok (.iload_n 3, 1) := by decide +kernel
theorem dX11_goAll_47 : decode cX11_goAll 47 = .ok (.if_icmp .ge 79, 3) := by decide +kernel
theorem dX11_goAll_50 : decode cX11_goAll 50 = .ok (.aload_n 0, 1) := by decide +kernel
theorem dX11_goAll_51 : decode cX11_goAll 51 = .ok (.getfield 88, 3) := by decide +kernel
theorem dX11_goAll_54 : decode cX11_goAll 54 = .ok (.iload_n 1, 1) := by decide +kernel
theorem dX11_goAll_55 : decode cX11_goAll 55 = .ok (.iload_n 2, 1) := by decide +kernel
theorem dX11_goAll_56 : decode cX11_goAll 56 = .ok (.iload 6, 2) := by decide +kernel
theorem dX11_goAll_58 : decode cX11_goAll 58 = .ok (.iadd, 1) := by decide +kernel
theorem dX11_goAll_59 : decode cX11_goAll 59 = .ok (.invokevirtual 294, 3) := by decide +kernel
theorem dX11_goAll_62 : decode cX11_goAll 62 = .ok (.ifCond .ne 6, 3) := by decide +kernel
theorem dX11_goAll_65 : decode cX11_goAll 65 = .ok (.bipush (-12), 2) := by decide +kernel
theorem dX11_goAll_67 : decode cX11_goAll 67 = .ok (.ireturn, 1) := by decide +kernel
theorem dX11_goAll_68 : decode cX11_goAll 68 = .ok (.aload_n 0, 1) := by decide +kernel
theorem dX11_goAll_69 : decode cX11_goAll 69 = .ok (.getfield 88, 3) := by decide +kernel
theorem dX11_goAll_72 : decode cX11_goAll 72 = .ok (.getfield 297, 3) := by decide +kernel
theorem dX11_goAll_75 : decode cX11_goAll 75 = .ok (.iload_n 1, 1) := by decide +kernel
theorem dX11_goAll_76 : decode cX11_goAll 76 = .ok (.aaload, 1) := by decide +kernel
theorem dX11_goAll_77 : decode cX11_goAll 77 = .ok (.iload_n 2, 1) := by decide +kernel
theorem dX11_goAll_78 : decode cX11_goAll 78 = .ok (.iload 6, 2) := by decide +kernel
theorem dX11_goAll_80 : decode cX11_goAll 80 = .ok (.iadd, 1) := by decide +kernel
theorem dX11_goAll_81 : decode cX11_goAll 81 = .ok (.iaload, 1) := by decide +kernel
theorem dX11_goAll_82 : decode cX11_goAll 82 = .ok (.istore 7, 2) := by decide +kernel
theorem dX11_goAll_84 : decode cX11_goAll 84 = .ok (.aload_n 0, 1) := by decide +kernel
theorem dX11_goAll_85 : decode cX11_goAll 85 = .ok (.getfield 66, 3) := by decide +kernel
theorem dX11_goAll_88 : decode cX11_goAll 88 = .ok (.iload 7, 2) := by decide +kernel
theorem dX11_goAll_90 : decode cX11_goAll 90 = .ok (.invokevirtual 281, 3) := by decide +kernel
theorem dX11_goAll_93 : decode cX11_goAll 93 = .ok (.ifCond .eq 27, 3) := by decide +kernel
theorem dX11_goAll_96 : decode cX11_goAll 96 = .ok (.aload_n 0, 1) := by decide +kernel
theorem dX11_goAll_97 : decode cX11_goAll 97 = .ok (.getfield 66, 3) := by decide +kernel
theorem dX11_goAll_100 : decode cX11_goAll 100 = .ok (.invokevirtual 153, 3) := by decide +kernel
theorem dX11_goAll_103 : decode cX11_goAll 103 = .ok (.ifCond .ne 17, 3) := by decide +kernel
theorem dX11_goAll_106 : decode cX11_goAll 106 = .ok (.iload 5, 2) := by decide +kernel
theorem dX11_goAll_108 : decode cX11_goAll 108 = .ok (.aload_n 0, 1) := by decide +kernel
theorem dX11_goAll_109 : decode cX11_goAll 109 = .ok (.getfield 66, 3) := by decide +kernel
theorem dX11_goAll_112 : decode cX11_goAll 112 = .ok (.iload 7, 2) := by decide +kernel
theorem dX11_goAll_114 : decode cX11_goAll 114 = .ok (.invokevirtual 177, 3) := by decide +kernel
theorem dX11_goAll_117 : decode cX11_goAll 117 = .ok (.iadd, 1) := by decide +kernel
theorem dX11_goAll_118 : decode cX11_goAll 118 = .ok (.istore 5, 2) := by decide +kernel
theorem dX11_goAll_120 : decode cX11_goAll 120 = .ok (.iinc 6 1, 3) := by decide +kernel
theorem dX11_goAll_123 : decode cX11_goAll 123 = .ok (.goto (-79), 3) := by decide +kernel
theorem dX11_goAll_126 : decode cX11_goAll 126 = .ok (.iload 5, 2) := by decide +kernel
theorem dX11_goAll_128 : decode cX11_goAll 128 = .ok (.ireturn, 1) := by decide +kernel
theorem dX11_wouldBe_0 : decode cX11_wouldBe 0 = .ok (.iload_n 1, 1) := by decide +kernel
theorem dX11_wouldBe_1 : decode cX11_wouldBe 1 = .ok (.invokestatic 284, 3) := by decide +kernel
theorem dX11_wouldBe_4 : decode cX11_wouldBe 4 = .ok (.ifCond .eq 13, 3) := by decide +kernel
theorem dX11_wouldBe_7 : decode cX11_wouldBe 7 = .ok (.iload_n 3, 1) := by decide +kernel
theorem dX11_wouldBe_8 : decode cX11_wouldBe 8 = .ok (.ifCond .lt 9, 3) := by decide +kernel
theorem dX11_wouldBe_11 : decode cX11_wouldBe 11 = .ok (.iload_n 3, 1) := by decide +kernel
theorem dX11_wouldBe_12 : decode cX11_wouldBe 12 = .ok (.bipush 20, 2) := by decide +kernel
theorem dX11_wouldBe_14 : decode cX11_wouldBe 14 = .ok (.if_icmp .le 5, 3) := by decide +kernel
theorem dX11_wouldBe_17 : decode cX11_wouldBe 17 = .ok (.iconst (-1), 1) := by decide +kernel
theorem dX11_wouldBe_18 : decode cX11_wouldBe 18 = .ok (.ireturn, 1) := by decide +kernel
theorem dX11_wouldBe_19 : decode cX11_wouldBe 19 = .ok (.aload_n 0, 1) := by decide +kernel
theorem dX11_wouldBe_20 : decode cX11_wouldBe 20 = .ok (.getfield 88, 3) := by decide +kernel
theorem dX11_wouldBe_23 : decode cX11_wouldBe 23 = .ok (.iload_n 1, 1) := by decide +kernel
theorem dX11_wouldBe_24 : decode cX11_wouldBe 24 = .ok (.iconst 0, 1) := by decide +kernel
theorem dX11_wouldBe_25 : decode cX11_wouldBe 25 = .ok (.invokevirtual 303, 3) := by decide +kernel
theorem dX11_wouldBe_28 : decode cX11_wouldBe 28 = .ok (.istore 4, 2) := by decide +kernel
theorem dX11_wouldBe_30 : decode cX11_wouldBe 30 = .ok (.iload 4, 2) := by decide +kernel
theorem dX11_wouldBe_32 : decode cX11_wouldBe 32 = .ok (.ifCond .ge 6, 3) := by decide +kernel
theorem dX11_wouldBe_35 : decode cX11_wouldBe 35 = .ok (.iload 4, 2) := by decide +kernel
theorem dX11_wouldBe_37 : decode cX11_wouldBe 37 = .ok (.ireturn, 1) := by decide +kernel
theorem dX11_wouldBe_38 : decode cX11_wouldBe 38 = .ok (.aload_n 0, 1) := by decide +kernel
theorem dX11_wouldBe_39 : decode cX11_wouldBe 39 = .ok (.getfield 73, 3) := by decide +kernel
theorem dX11_wouldBe_42 : decode cX11_wouldBe 42 = .ok (.aload_n 0, 1) := by decide +kernel
theorem dX11_wouldBe_43 : decode cX11_wouldBe 43 = .ok (.getfield 66, 3) := by decide +kernel
theorem dX11_wouldBe_46 : decode cX11_wouldBe 46 = .ok (.invokevirtual 180, 3) := by decide +kernel
theorem dX11_wouldBe_49 : decode cX11_wouldBe 49 = .ok (.iconst 0, 1) := by decide +kernel
theorem dX11_wouldBe_50 : decode cX11_wouldBe 50 = .ok (.istore 5, 2) := by decide +kernel
theorem dX11_wouldBe_52 : decode cX11_wouldBe 52 = .ok (.iconst 0, 1) := by decide +kernel
theorem dX11_wouldBe_53 : decode cX11_wouldBe 53 = .ok (.istore 6, 2) := by decide +kernel
theorem dX11_wouldBe_55 : decode cX11_wouldBe 55 = .ok (.iload 6, 2) := by decide +kernel
theorem dX11_wouldBe_57 : decode cX11_wouldBe 57 = .ok (.iload_n 3, 1) := by decide +kernel
theorem dX11_wouldBe_58 : decode cX11_wouldBe 58 = .ok (.if_icmp .ge 82, 3) := by decide +kernel
theorem dX11_wouldBe_61 : decode cX11_wouldBe 61 = .ok (.aload_n 0, 1) := by decide +kernel
theorem dX11_wouldBe_62 : decode cX11_wouldBe 62 = .ok (.getfield 88, 3) := by decide +kernel
theorem dX11_wouldBe_65 : decode cX11_wouldBe 65 = .ok (.iload_n 1, 1) := by decide +kernel
theorem dX11_wouldBe_66 : decode cX11_wouldBe 66 = .ok (.iload_n 2, 1) := by decide +kernel
theorem dX11_wouldBe_67 : decode cX11_wouldBe 67 = .ok (.iload 6, 2) := by decide +kernel
theorem dX11_wouldBe_69 : decode cX11_wouldBe 69 = .ok (.iadd, 1) := by decide +kernel
theorem dX11_wouldBe_70 : decode cX11_wouldBe 70 = .ok (.invokevirtual 294, 3) := by decide +kernel
theorem dX11_wouldBe_73 : decode cX11_wouldBe 73 = .ok (.ifCond .ne 6, 3) := by decide +kernel
theorem dX11_wouldBe_76 : decode cX11_wouldBe 76 = .ok (.bipush (-12), 2) := by decide +kernel
theorem dX11_wouldBe_78 : decode cX11_wouldBe 78 = .ok (.ireturn, 1) := by decide +kernel
theorem dX11_wouldBe_79 : decode cX11_wouldBe 79 = .ok (.aload_n 0, 1) := by decide +kernel
theorem dX11_wouldBe_80 : decode cX11_wouldBe 80 = .ok (.getfield 88, 3) := by decide +kernel
theorem dX11_wouldBe_83 : decode cX11_wouldBe 83 = .ok (.getfield 297, 3) := by decide +kernel
theorem dX11_wouldBe_86 : decode cX11_wouldBe 86 = .ok (.iload_n 1, 1) := by decide +kernel
theorem dX11_wouldBe_87 : decode cX11_wouldBe 87 = .ok (.aaload, 1) := by decide +kernel
theorem dX11_wouldBe_88 : decode cX11_wouldBe 88 = .ok (.iload_n 2, 1) := by decide +kernel
theorem dX11_wouldBe_89 : decode cX11_wouldBe 89 = .ok (.iload 6, 2) := by decide +kernel
theorem dX11_wouldBe_91 : decode cX11_wouldBe 91 = .ok (.iadd, 1) := by decide +kernel
theorem dX11_wouldBe_92 : decode cX11_wouldBe 92 = .ok (.iaload, 1) := by decide +kernel
theorem dX11_wouldBe_93 : decode cX11_wouldBe 93 = .ok (.istore 7, 2) := by decide +kernel
theorem dX11_wouldBe_95 : decode cX11_wouldBe 95 = .ok (.aload_n 0, 1) := by decide +kernel
theorem dX11_wouldBe_96 : decode cX11_wouldBe 96 = .ok (.getfield 73, 3) := by decide +kernel
theorem dX11_wouldBe_99 : decode cX11_wouldBe 99 = .ok (.iload 7, 2) := by decide +kernel
theorem dX11_wouldBe_101 : decode cX11_wouldBe 101 = .ok (.invokevirtual 281, 3) := by decide +kernel
theorem dX11_wouldBe_104 : decode cX11_wouldBe 104 = .ok (.ifCond .eq 13, 3) := by decide +kernel
theorem dX11_wouldBe_107 : decode cX11_wouldBe 107 = .ok (.aload_n 0, 1) := by decide +kernel
theorem dX11_wouldBe_108 : decode cX11_wouldBe 108 = .ok (.getfield 73, 3) := by decide +kernel
theorem dX11_wouldBe_111 : decode cX11_wouldBe 111 = .ok (.invokevirtual 153, 3) := by decide +kernel
theorem dX11_wouldBe_114 : decode cX11_wouldBe 114 = .ok (.ifCond .eq 6, 3) := by decide +kernel
theorem dX11_wouldBe_117 : decode cX11_wouldBe 117 = .ok (.bipush (-4), 2) := by decide +kernel
theorem dX11_wouldBe_119 : decode cX11_wouldBe 119 = .ok (.ireturn, 1) := by decide +kernel
theorem dX11_wouldBe_120 : decode cX11_wouldBe 120 = .ok (.iload 5, 2) := by decide +kernel
theorem dX11_wouldBe_122 : decode cX11_wouldBe 122 = .ok (.aload_n 0, 1) := by decide +kernel
theorem dX11_wouldBe_123 : decode cX11_wouldBe 123 = .ok (.getfield 73, 3) := by decide +kernel
theorem dX11_wouldBe_126 : decode cX11_wouldBe 126 = .ok (.iload 7, 2) := by decide +kernel
theorem dX11_wouldBe_128 : decode cX11_wouldBe 128 = .ok (.invokevirtual 177, 3) := by decide +kernel
theorem dX11_wouldBe_131 : decode cX11_wouldBe 131 = .ok (.iadd, 1) := by decide +kernel
theorem dX11_wouldBe_132 : decode cX11_wouldBe 132 = .ok (.istore 5, 2) := by decide +kernel
theorem dX11_wouldBe_134 : decode cX11_wouldBe 134 = .ok (.iinc 6 1, 3) := by decide +kernel
theorem dX11_wouldBe_137 : decode cX11_wouldBe 137 = .ok (.goto (-82), 3) := by decide +kernel
theorem dX11_wouldBe_140 : decode cX11_wouldBe 140 = .ok (.iload 5, 2) := by decide +kernel
theorem dX11_wouldBe_142 : decode cX11_wouldBe 142 = .ok (.ireturn, 1) := by decide +kernel
theorem dX11_shelf_0 : decode cX11_shelf 0 = .ok (.iload_n 1, 1) := by decide +kernel
theorem dX11_shelf_1 : decode cX11_shelf 1 = .ok (.invokestatic 306, 3) := by decide +kernel
theorem dX11_shelf_4 : decode cX11_shelf 4 = .ok (.ifCond .eq 12, 3) := by decide +kernel
theorem dX11_shelf_7 : decode cX11_shelf 7 = .ok (.iload_n 2, 1) := by decide +kernel
theorem dX11_shelf_8 : decode cX11_shelf 8 = .ok (.ifCond .lt 8, 3) := by decide +kernel
theorem dX11_shelf_11 : decode cX11_shelf 11 = .ok (.iload_n 2, 1) := by decide +kernel
theorem dX11_shelf_12 : decode cX11_shelf 12 = .ok (.iconst 2, 1) := by decide +kernel
theorem dX11_shelf_13 : decode cX11_shelf 13 = .ok (.if_icmp .le 5, 3) := by decide +kernel
theorem dX11_shelf_16 : decode cX11_shelf 16 = .ok (.iconst (-1), 1) := by decide +kernel
theorem dX11_shelf_17 : decode cX11_shelf 17 = .ok (.ireturn, 1) := by decide +kernel
theorem dX11_shelf_18 : decode cX11_shelf 18 = .ok (.iload_n 2, 1) := by decide +kernel
theorem dX11_shelf_19 : decode cX11_shelf 19 = .ok (.ifCond .ne 14, 3) := by decide +kernel
theorem dX11_shelf_22 : decode cX11_shelf 22 = .ok (.aload_n 0, 1) := by decide +kernel
theorem dX11_shelf_23 : decode cX11_shelf 23 = .ok (.getfield 66, 3) := by decide +kernel
theorem dX11_shelf_26 : decode cX11_shelf 26 = .ok (.iload_n 3, 1) := by decide +kernel
theorem dX11_shelf_27 : decode cX11_shelf 27 = .ok (.invokevirtual 104, 3) := by decide +kernel
theorem dX11_shelf_30 : decode cX11_shelf 30 = .ok (.ifCond .eq 15, 3) := by decide +kernel
theorem dX11_shelf_33 : decode cX11_shelf 33 = .ok (.iload_n 2, 1) := by decide +kernel
theorem dX11_shelf_34 : decode cX11_shelf 34 = .ok (.iconst 1, 1) := by decide +kernel
theorem dX11_shelf_35 : decode cX11_shelf 35 = .ok (.if_icmp .ne 12, 3) := by decide +kernel
theorem dX11_shelf_38 : decode cX11_shelf 38 = .ok (.iload_n 3, 1) := by decide +kernel
theorem dX11_shelf_39 : decode cX11_shelf 39 = .ok (.invokestatic 284, 3) := by decide +kernel
theorem dX11_shelf_42 : decode cX11_shelf 42 = .ok (.ifCond .ne 5, 3) := by decide +kernel
theorem dX11_shelf_45 : decode cX11_shelf 45 = .ok (.iconst (-1), 1) := by decide +kernel
theorem dX11_shelf_46 : decode cX11_shelf 46 = .ok (.ireturn, 1) := by decide +kernel
theorem dX11_shelf_47 : decode cX11_shelf 47 = .ok (.iload_n 2, 1) := by decide +kernel
theorem dX11_shelf_48 : decode cX11_shelf 48 = .ok (.ifCond .ne 15, 3) := by decide +kernel
theorem dX11_shelf_51 : decode cX11_shelf 51 = .ok (.aload_n 0, 1) := by decide +kernel
theorem dX11_shelf_52 : decode cX11_shelf 52 = .ok (.getfield 88, 3) := by decide +kernel
theorem dX11_shelf_55 : decode cX11_shelf 55 = .ok (.iload_n 1, 1) := by decide +kernel
theorem dX11_shelf_56 : decode cX11_shelf 56 = .ok (.iload_n 3, 1) := by decide +kernel
theorem dX11_shelf_57 : decode cX11_shelf 57 = .ok (.invokevirtual 309, 3) := by decide +kernel
theorem dX11_shelf_60 : decode cX11_shelf 60 = .ok (.goto 30, 3) := by decide +kernel
theorem dX11_shelf_63 : decode cX11_shelf 63 = .ok (.iload_n 2, 1) := by decide +kernel
theorem dX11_shelf_64 : decode cX11_shelf 64 = .ok (.iconst 1, 1) := by decide +kernel
theorem dX11_shelf_65 : decode cX11_shelf 65 = .ok (.if_icmp .ne 15, 3) := by decide +kernel
theorem dX11_shelf_68 : decode cX11_shelf 68 = .ok (.aload_n 0, 1) := by decide +kernel
theorem dX11_shelf_69 : decode cX11_shelf 69 = .ok (.getfield 88, 3) := by decide +kernel
theorem dX11_shelf_72 : decode cX11_shelf 72 = .ok (.iload_n 1, 1) := by decide +kernel
theorem dX11_shelf_73 : decode cX11_shelf 73 = .ok (.iload_n 3, 1) := by decide +kernel
theorem dX11_shelf_74 : decode cX11_shelf 74 = .ok (.invokevirtual 313, 3) := by decide +kernel
theorem dX11_shelf_77 : decode cX11_shelf 77 = .ok (.goto 13, 3) := by decide +kernel
theorem dX11_shelf_80 : decode cX11_shelf 80 = .ok (.aload_n 0, 1) := by decide +kernel
theorem dX11_shelf_81 : decode cX11_shelf 81 = .ok (.getfield 88, 3) := by decide +kernel
theorem dX11_shelf_84 : decode cX11_shelf 84 = .ok (.getfield 316, 3) := by decide +kernel
theorem dX11_shelf_87 : decode cX11_shelf 87 = .ok (.iload_n 1, 1) := by decide +kernel
theorem dX11_shelf_88 : decode cX11_shelf 88 = .ok (.iconst 2, 1) := by decide +kernel
theorem dX11_shelf_89 : decode cX11_shelf 89 = .ok (.iastore, 1) := by decide +kernel
theorem dX11_shelf_90 : decode cX11_shelf 90 = .ok (.iconst 1, 1) := by decide +kernel
theorem dX11_shelf_91 : decode cX11_shelf 91 = .ok (.ireturn, 1) := by decide +kernel
theorem dX11_taken_0 : decode cX11_taken 0 = .ok (.iload_n 2, 1) := by decide +kernel
theorem dX11_taken_1 : decode cX11_taken 1 = .ok (.ifCond .lt 13, 3) := by decide +kernel
theorem dX11_taken_4 : decode cX11_taken 4 = .ok (.iload_n 2, 1) := by decide +kernel
theorem dX11_taken_5 : decode cX11_taken 5 = .ok (.bipush 6, 2) := by decide +kernel
theorem dX11_taken_7 : decode cX11_taken 7 = .ok (.if_icmp .ge 7, 3) := by decide +kernel
theorem dX11_taken_10 : decode cX11_taken 10 = .ok (.iconst 1, 1) := by decide +kernel
theorem dX11_taken_11 : decode cX11_taken 11 = .ok (.goto 4, 3) := by decide +kernel
theorem dX11_taken_14 : decode cX11_taken 14 = .ok (.iconst 0, 1) := by decide +kernel
theorem dX11_taken_15 : decode cX11_taken 15 = .ok (.istore_n 3, 1) := by decide +kernel
theorem dX11_taken_16 : decode cX11_taken 16 = .ok (.iload_n 2, 1) := by decide +kernel
theorem dX11_taken_17 : decode cX11_taken 17 = .ok (.bipush 10, 2) := by decide +kernel
theorem dX11_taken_19 : decode cX11_taken 19 = .ok (.if_icmp .lt 13, 3) := by decide +kernel
theorem dX11_taken_22 : decode cX11_taken 22 = .ok (.iload_n 2, 1) := by decide +kernel
theorem dX11_taken_23 : decode cX11_taken 23 = .ok (.bipush 14, 2) := by decide +kernel
theorem dX11_taken_25 : decode cX11_taken 25 = .ok (.if_icmp .gt 7, 3) := by decide +kernel
theorem dX11_taken_28 : decode cX11_taken 28 = .ok (.iconst 1, 1) := by decide +kernel
theorem dX11_taken_29 : decode cX11_taken 29 = .ok (.goto 4, 3) := by decide +kernel
theorem dX11_taken_32 : decode cX11_taken 32 = .ok (.iconst 0, 1) := by decide +kernel
theorem dX11_taken_33 : decode cX11_taken 33 = .ok (.istore 4, 2) := by decide +kernel
theorem dX11_taken_35 : decode cX11_taken 35 = .ok (.iload_n 1, 1) := by decide +kernel
theorem dX11_taken_36 : decode cX11_taken 36 = .ok (.invokestatic 306, 3) := by decide +kernel
theorem dX11_taken_39 : decode cX11_taken 39 = .ok (.ifCond .eq 12, 3) := by decide +kernel
theorem dX11_taken_42 : decode cX11_taken 42 = .ok (.iload_n 3, 1) := by decide +kernel
theorem dX11_taken_43 : decode cX11_taken 43 = .ok (.ifCond .ne 10, 3) := by decide +kernel
theorem dX11_taken_46 : decode cX11_taken 46 = .ok (.iload 4, 2) := by decide +kernel
theorem dX11_taken_48 : decode cX11_taken 48 = .ok (.ifCond .ne 5, 3) := by decide +kernel
theorem dX11_taken_51 : decode cX11_taken 51 = .ok (.iconst (-1), 1) := by decide +kernel
theorem dX11_taken_52 : decode cX11_taken 52 = .ok (.ireturn, 1) := by decide +kernel
theorem dX11_taken_53 : decode cX11_taken 53 = .ok (.aload_n 0, 1) := by decide +kernel
theorem dX11_taken_54 : decode cX11_taken 54 = .ok (.getfield 88, 3) := by decide +kernel
theorem dX11_taken_57 : decode cX11_taken 57 = .ok (.getfield 319, 3) := by decide +kernel
theorem dX11_taken_60 : decode cX11_taken 60 = .ok (.iload_n 1, 1) := by decide +kernel
theorem dX11_taken_61 : decode cX11_taken 61 = .ok (.iaload, 1) := by decide +kernel
theorem dX11_taken_62 : decode cX11_taken 62 = .ok (.istore 5, 2) := by decide +kernel
theorem dX11_taken_64 : decode cX11_taken 64 = .ok (.aload_n 0, 1) := by decide +kernel
theorem dX11_taken_65 : decode cX11_taken 65 = .ok (.getfield 88, 3) := by decide +kernel
theorem dX11_taken_68 : decode cX11_taken 68 = .ok (.getfield 316, 3) := by decide +kernel
theorem dX11_taken_71 : decode cX11_taken 71 = .ok (.iload_n 1, 1) := by decide +kernel
theorem dX11_taken_72 : decode cX11_taken 72 = .ok (.iaload, 1) := by decide +kernel
theorem dX11_taken_73 : decode cX11_taken 73 = .ok (.iconst 1, 1) := by decide +kernel
theorem dX11_taken_74 : decode cX11_taken 74 = .ok (.if_icmp .ne 32, 3) := by decide +kernel
theorem dX11_taken_77 : decode cX11_taken 77 = .ok (.iload 4, 2) := by decide +kernel
theorem dX11_taken_79 : decode cX11_taken 79 = .ok (.ifCond .eq 24, 3) := by decide +kernel
theorem dX11_taken_82 : decode cX11_taken 82 = .ok (.iload 5, 2) := by decide +kernel
theorem dX11_taken_84 : decode cX11_taken 84 = .ok (.iload_n 2, 1) := by decide +kernel
theorem dX11_taken_85 : decode cX11_taken 85 = .ok (.bipush 10, 2) := by decide +kernel
theorem dX11_taken_87 : decode cX11_taken 87 = .ok (.isub, 1) := by decide +kernel
theorem dX11_taken_88 : decode cX11_taken 88 = .ok (.if_icmp .ne 15, 3) := by decide +kernel
theorem dX11_taken_91 : decode cX11_taken 91 = .ok (.aload_n 0, 1) := by decide +kernel
theorem dX11_taken_92 : decode cX11_taken 92 = .ok (.getfield 88, 3) := by decide +kernel
theorem dX11_taken_95 : decode cX11_taken 95 = .ok (.getfield 322, 3) := by decide +kernel
theorem dX11_taken_98 : decode cX11_taken 98 = .ok (.iload_n 1, 1) := by decide +kernel
theorem dX11_taken_99 : decode cX11_taken 99 = .ok (.iaload, 1) := by decide +kernel
theorem dX11_taken_100 : decode cX11_taken 100 = .ok (.goto 5, 3) := by decide +kernel
theorem dX11_taken_103 : decode cX11_taken 103 = .ok (.bipush (-13), 2) := by decide +kernel
theorem dX11_taken_105 : decode cX11_taken 105 = .ok (.ireturn, 1) := by decide +kernel
theorem dX11_taken_106 : decode cX11_taken 106 = .ok (.aload_n 0, 1) := by decide +kernel
theorem dX11_taken_107 : decode cX11_taken 107 = .ok (.iload_n 1, 1) := by decide +kernel
theorem dX11_taken_108 : decode cX11_taken 108 = .ok (.invokevirtual 324, 3) := by decide +kernel
theorem dX11_taken_111 : decode cX11_taken 111 = .ok (.ifCond .ne 6, 3) := by decide +kernel
theorem dX11_taken_114 : decode cX11_taken 114 = .ok (.bipush (-11), 2) := by decide +kernel
theorem dX11_taken_116 : decode cX11_taken 116 = .ok (.ireturn, 1) := by decide +kernel
theorem dX11_taken_117 : decode cX11_taken 117 = .ok (.iload_n 3, 1) := by decide +kernel
theorem dX11_taken_118 : decode cX11_taken 118 = .ok (.ifCond .eq 32, 3) := by decide +kernel
theorem dX11_taken_121 : decode cX11_taken 121 = .ok (.getstatic 327, 3) := by decide +kernel
theorem dX11_taken_124 : decode cX11_taken 124 = .ok (.aload_n 0, 1) := by decide +kernel
theorem dX11_taken_125 : decode cX11_taken 125 = .ok (.getfield 66, 3) := by decide +kernel
theorem dX11_taken_128 : decode cX11_taken 128 = .ok (.getfield 108, 3) := by decide +kernel
theorem dX11_taken_131 : decode cX11_taken 131 = .ok (.iconst 0, 1) := by decide +kernel
theorem dX11_taken_132 : decode cX11_taken 132 = .ok (.aaload, 1) := by decide +kernel
theorem dX11_taken_133 : decode cX11_taken 133 = .ok (.iload 5, 2) := by decide +kernel
theorem dX11_taken_135 : decode cX11_taken 135 = .ok (.iaload, 1) := by decide +kernel
theorem dX11_taken_136 : decode cX11_taken 136 = .ok (.iaload, 1) := by decide +kernel
theorem dX11_taken_137 : decode cX11_taken 137 = .ok (.iload_n 2, 1) := by decide +kernel
theorem dX11_taken_138 : decode cX11_taken 138 = .ok (.ishr, 1) := by decide +kernel
theorem dX11_taken_139 : decode cX11_taken 139 = .ok (.iconst 1, 1) := by decide +kernel
theorem dX11_taken_140 : decode cX11_taken 140 = .ok (.iand, 1) := by decide +kernel
theorem dX11_taken_141 : decode cX11_taken 141 = .ok (.iconst 1, 1) := by decide +kernel
theorem dX11_taken_142 : decode cX11_taken 142 = .ok (.if_icmp .ne 8, 3) := by decide +kernel
theorem dX11_taken_145 : decode cX11_taken 145 = .ok (.iload 5, 2) := by decide +kernel
theorem dX11_taken_147 : decode cX11_taken 147 = .ok (.goto 5, 3) := by decide +kernel
theorem dX11_taken_150 : decode cX11_taken 150 = .ok (.bipush (-13), 2) := by decide +kernel
theorem dX11_taken_152 : decode cX11_taken 152 = .ok (.ireturn, 1) := by decide +kernel
theorem dX11_act_0 : decode cX11_act 0 = .ok (.aload_n 0, 1) := by decide +kernel
theorem dX11_act_1 : decode cX11_act 1 = .ok (.getfield 88, 3) := by decide +kernel
theorem dX11_act_4 : decode cX11_act 4 = .ok (.iconst 0, 1) := by decide +kernel
theorem dX11_act_5 : decode cX11_act 5 = .ok (.putfield 330, 3) := by decide +kernel
theorem dX11_act_8 : decode cX11_act 8 = .ok (.iload_n 1, 1) := by decide +kernel
theorem dX11_act_9 : decode cX11_act 9 = .ok (.invokestatic 306, 3) := by decide +kernel
theorem dX11_act_12 : decode cX11_act 12 = .ok (.ifCond .eq 20, 3) := by decide +kernel
theorem dX11_act_15 : decode cX11_act 15 = .ok (.iload_n 2, 1) := by decide +kernel
theorem dX11_act_16 : decode cX11_act 16 = .ok (.ifCond .lt 16, 3) := by decide +kernel
theorem dX11_act_19 : decode cX11_act 19 = .ok (.iload_n 2, 1) := by decide +kernel
theorem dX11_act_20 : decode cX11_act 20 = .ok (.iconst 3, 1) := by decide +kernel
theorem dX11_act_21 : decode cX11_act 21 = .ok (.if_icmp .gt 11, 3) := by decide +kernel
theorem dX11_act_24 : decode cX11_act 24 = .ok (.aload_n 0, 1) := by decide +kernel
theorem dX11_act_25 : decode cX11_act 25 = .ok (.iload_n 1, 1) := by decide +kernel
theorem dX11_act_26 : decode cX11_act 26 = .ok (.invokevirtual 324, 3) := by decide +kernel
theorem dX11_act_29 : decode cX11_act 29 = .ok (.ifCond .ne 5, 3) := by decide +kernel
theorem dX11_act_32 : decode cX11_act 32 = .ok (.iconst 0, 1) := by decide +kernel
theorem dX11_act_33 : decode cX11_act 33 = .ok (.ireturn, 1) := by decide +kernel
theorem dX11_act_34 : decode cX11_act 34 = .ok (.aload_n 0, 1) := by decide +kernel
theorem dX11_act_35 : decode cX11_act 35 = .ok (.getfield 88, 3) := by decide +kernel
theorem dX11_act_38 : decode cX11_act 38 = .ok (.getfield 319, 3) := by decide +kernel
theorem dX11_act_41 : decode cX11_act 41 = .ok (.iload_n 1, 1) := by decide +kernel
theorem dX11_act_42 : decode cX11_act 42 = .ok (.iaload, 1) := by decide +kernel
theorem dX11_act_43 : decode cX11_act 43 = .ok (.istore 4, 2) := by decide +kernel
theorem dX11_act_45 : decode cX11_act 45 = .ok (.aload_n 0, 1) := by decide +kernel
theorem dX11_act_46 : decode cX11_act 46 = .ok (.getfield 88, 3) := by decide +kernel
theorem dX11_act_49 : decode cX11_act 49 = .ok (.iload 4, 2) := by decide +kernel
theorem dX11_act_51 : decode cX11_act 51 = .ok (.aload_n 0, 1) := by decide +kernel
theorem dX11_act_52 : decode cX11_act 52 = .ok (.getfield 66, 3) := by decide +kernel
theorem dX11_act_55 : decode cX11_act 55 = .ok (.invokevirtual 333, 3) := by decide +kernel
theorem dX11_act_58 : decode cX11_act 58 = .ok (.astore 5, 2) := by decide +kernel
theorem dX11_act_60 : decode cX11_act 60 = .ok (.iload_n 2, 1) := by decide +kernel
theorem dX11_act_61 : decode cX11_act 61 = .ok (.tableswitch 72 0 2 #[27, 42, 57], 27) := by decide +kernel
theorem dX11_act_88 : decode cX11_act 88 = .ok (.aload 5, 2) := by decide +kernel
theorem dX11_act_90 : decode cX11_act 90 = .ok (.aload_n 0, 1) := by decide +kernel
theorem dX11_act_91 : decode cX11_act 91 = .ok (.getfield 88, 3) := by decide +kernel
theorem dX11_act_94 : decode cX11_act 94 = .ok (.iload_n 3, 1) := by decide +kernel
theorem dX11_act_95 : decode cX11_act 95 = .ok (.invokevirtual 337, 3) := by decide +kernel
theorem dX11_act_98 : decode cX11_act 98 = .ok (.istore 6, 2) := by decide +kernel
theorem dX11_act_100 : decode cX11_act 100 = .ok (.goto 45, 3) := by decide +kernel
theorem dX11_act_103 : decode cX11_act 103 = .ok (.aload 5, 2) := by decide +kernel
theorem dX11_act_105 : decode cX11_act 105 = .ok (.aload_n 0, 1) := by decide +kernel
theorem dX11_act_106 : decode cX11_act 106 = .ok (.getfield 88, 3) := by decide +kernel
theorem dX11_act_109 : decode cX11_act 109 = .ok (.iload_n 3, 1) := by decide +kernel
theorem dX11_act_110 : decode cX11_act 110 = .ok (.invokevirtual 341, 3) := by decide +kernel
theorem dX11_act_113 : decode cX11_act 113 = .ok (.istore 6, 2) := by decide +kernel
theorem dX11_act_115 : decode cX11_act 115 = .ok (.goto 30, 3) := by decide +kernel
theorem dX11_act_118 : decode cX11_act 118 = .ok (.aload 5, 2) := by decide +kernel
theorem dX11_act_120 : decode cX11_act 120 = .ok (.aload_n 0, 1) := by decide +kernel
theorem dX11_act_121 : decode cX11_act 121 = .ok (.getfield 88, 3) := by decide +kernel
theorem dX11_act_124 : decode cX11_act 124 = .ok (.iload_n 3, 1) := by decide +kernel
theorem dX11_act_125 : decode cX11_act 125 = .ok (.invokevirtual 344, 3) := by decide +kernel
theorem dX11_act_128 : decode cX11_act 128 = .ok (.istore 6, 2) := by decide +kernel
theorem dX11_act_130 : decode cX11_act 130 = .ok (.goto 15, 3) := by decide +kernel
theorem dX11_act_133 : decode cX11_act 133 = .ok (.aload 5, 2) := by decide +kernel
theorem dX11_act_135 : decode cX11_act 135 = .ok (.aload_n 0, 1) := by decide +kernel
theorem dX11_act_136 : decode cX11_act 136 = .ok (.getfield 88, 3) := by decide +kernel
theorem dX11_act_139 : decode cX11_act 139 = .ok (.iload_n 3, 1) := by decide +kernel
theorem dX11_act_140 : decode cX11_act 140 = .ok (.invokevirtual 347, 3) := by decide +kernel
theorem dX11_act_143 : decode cX11_act 143 = .ok (.istore 6, 2) := by decide +kernel
theorem dX11_act_145 : decode cX11_act 145 = .ok (.aload_n 0, 1) := by decide +kernel
theorem dX11_act_146 : decode cX11_act 146 = .ok (.getfield 88, 3) := by decide +kernel
theorem dX11_act_149 : decode cX11_act 149 = .ok (.getfield 350, 3) := by decide +kernel
theorem dX11_act_152 : decode cX11_act 152 = .ok (.ifCond .eq 8, 3) := by decide +kernel
theorem dX11_act_155 : decode cX11_act 155 = .ok (.bipush (-15), 2) := by decide +kernel
theorem dX11_act_157 : decode cX11_act 157 = .ok (.goto 5, 3) := by decide +kernel
theorem dX11_act_160 : decode cX11_act 160 = .ok (.iload 6, 2) := by decide +kernel
theorem dX11_act_162 : decode cX11_act 162 = .ok (.ireturn, 1) := by decide +kernel
theorem dX11_trace_0 : decode cX11_trace 0 = .ok (.iload_n 1, 1) := by decide +kernel
theorem dX11_trace_1 : decode cX11_trace 1 = .ok (.ifCond .lt 26, 3) := by decide +kernel
theorem dX11_trace_4 : decode cX11_trace 4 = .ok (.iload_n 1, 1) := by decide +kernel
theorem dX11_trace_5 : decode cX11_trace 5 = .ok (.aload_n 0, 1) := by decide +kernel
theorem dX11_trace_6 : decode cX11_trace 6 = .ok (.getfield 88, 3) := by decide +kernel
theorem dX11_trace_9 : decode cX11_trace 9 = .ok (.getfield 330, 3) := by decide +kernel
theorem dX11_trace_12 : decode cX11_trace 12 = .ok (.if_icmp .ge 15, 3) := by decide +kernel
theorem dX11_trace_15 : decode cX11_trace 15 = .ok (.aload_n 0, 1) := by decide +kernel
theorem dX11_trace_16 : decode cX11_trace 16 = .ok (.getfield 88, 3) := by decide +kernel
theorem dX11_trace_19 : decode cX11_trace 19 = .ok (.getfield 354, 3) := by decide +kernel
theorem dX11_trace_22 : decode cX11_trace 22 = .ok (.iload_n 1, 1) := by decide +kernel
theorem dX11_trace_23 : decode cX11_trace 23 = .ok (.iaload, 1) := by decide +kernel
theorem dX11_trace_24 : decode cX11_trace 24 = .ok (.goto 5, 3) := by decide +kernel
theorem dX11_trace_27 : decode cX11_trace 27 = .ok (.bipush (-3), 2) := by decide +kernel
theorem dX11_trace_29 : decode cX11_trace 29 = .ok (.ireturn, 1) := by decide +kernel
theorem dX11_many_0 : decode cX11_many 0 = .ok (.iload_n 1, 1) := by decide +kernel
theorem dX11_many_1 : decode cX11_many 1 = .ok (.tableswitch 96 0 6 #[43, 51, 59, 70, 78, 83, 88], 43) := by decide +kernel
theorem dX11_many_44 : decode cX11_many 44 = .ok (.aload_n 0, 1) := by decide +kernel
theorem dX11_many_45 : decode cX11_many 45 = .ok (.getfield 66, 3) := by decide +kernel
theorem dX11_many_48 : decode cX11_many 48 = .ok (.getfield 96, 3) := by decide +kernel
theorem dX11_many_51 : decode cX11_many 51 = .ok (.ireturn, 1) := by decide +kernel
theorem dX11_many_52 : decode cX11_many 52 = .ok (.aload_n 0, 1) := by decide +kernel
theorem dX11_many_53 : decode cX11_many 53 = .ok (.getfield 18, 3) := by decide +kernel
theorem dX11_many_56 : decode cX11_many 56 = .ok (.getfield 171, 3) := by decide +kernel
theorem dX11_many_59 : decode cX11_many 59 = .ok (.ireturn, 1) := by decide +kernel
theorem dX11_many_60 : decode cX11_many 60 = .ok (.aload_n 0, 1) := by decide +kernel
theorem dX11_many_61 : decode cX11_many 61 = .ok (.getfield 66, 3) := by decide +kernel
theorem dX11_many_64 : decode cX11_many 64 = .ok (.invokevirtual 157, 3) := by decide +kernel
theorem dX11_many_67 : decode cX11_many 67 = .ok (.invokestatic 357, 3) := by decide +kernel
theorem dX11_many_70 : decode cX11_many 70 = .ok (.ireturn, 1) := by decide +kernel
theorem dX11_many_71 : decode cX11_many 71 = .ok (.aload_n 0, 1) := by decide +kernel
theorem dX11_many_72 : decode cX11_many 72 = .ok (.getfield 31, 3) := by decide +kernel
theorem dX11_many_75 : decode cX11_many 75 = .ok (.getfield 240, 3) := by decide +kernel
theorem dX11_many_78 : decode cX11_many 78 = .ok (.ireturn, 1) := by decide +kernel
theorem dX11_many_79 : decode cX11_many 79 = .ok (.aload_n 0, 1) := by decide +kernel
theorem dX11_many_80 : decode cX11_many 80 = .ok (.getfield 275, 3) := by decide +kernel
theorem dX11_many_83 : decode cX11_many 83 = .ok (.ireturn, 1) := by decide +kernel
theorem dX11_many_84 : decode cX11_many 84 = .ok (.aload_n 0, 1) := by decide +kernel
theorem dX11_many_85 : decode cX11_many 85 = .ok (.getfield 161, 3) := by decide +kernel
theorem dX11_many_88 : decode cX11_many 88 = .ok (.ireturn, 1) := by decide +kernel
theorem dX11_many_89 : decode cX11_many 89 = .ok (.aload_n 0, 1) := by decide +kernel
theorem dX11_many_90 : decode cX11_many 90 = .ok (.getfield 88, 3) := by decide +kernel
theorem dX11_many_93 : decode cX11_many 93 = .ok (.getfield 330, 3) := by decide +kernel
theorem dX11_many_96 : decode cX11_many 96 = .ok (.ireturn, 1) := by decide +kernel
theorem dX11_many_97 : decode cX11_many 97 = .ok (.iconst (-1), 1) := by decide +kernel
theorem dX11_many_98 : decode cX11_many 98 = .ok (.ireturn, 1) := by decide +kernel
theorem dX11_keep_0 : decode cX11_keep 0 = .ok (.aload_n 0, 1) := by decide +kernel
theorem dX11_keep_1 : decode cX11_keep 1 = .ok (.getfield 70, 3) := by decide +kernel
theorem dX11_keep_4 : decode cX11_keep 4 = .ok (.aload_n 0, 1) := by decide +kernel
theorem dX11_keep_5 : decode cX11_keep 5 = .ok (.getfield 66, 3) := by decide +kernel
theorem dX11_keep_8 : decode cX11_keep 8 = .ok (.invokevirtual 180, 3) := by decide +kernel
theorem dX11_keep_11 : decode cX11_keep 11 = .ok (.aload_n 0, 1) := by decide +kernel
theorem dX11_keep_12 : decode cX11_keep 12 = .ok (.getfield 25, 3) := by decide +kernel
theorem dX11_keep_15 : decode cX11_keep 15 = .ok (.aload_n 0, 1) := by decide +kernel
theorem dX11_keep_16 : decode cX11_keep 16 = .ok (.getfield 18, 3) := by decide +kernel
theorem dX11_keep_19 : decode cX11_keep 19 = .ok (.invokevirtual 167, 3) := by decide +kernel
theorem dX11_keep_22 : decode cX11_keep 22 = .ok (.aload_n 0, 1) := by decide +kernel
theorem dX11_keep_23 : decode cX11_keep 23 = .ok (.getfield 35, 3) := by decide +kernel
theorem dX11_keep_26 : decode cX11_keep 26 = .ok (.aload_n 0, 1) := by decide +kernel
theorem dX11_keep_27 : decode cX11_keep 27 = .ok (.getfield 31, 3) := by decide +kernel
theorem dX11_keep_30 : decode cX11_keep 30 = .ok (.invokevirtual 362, 3) := by decide +kernel
theorem dX11_keep_33 : decode cX11_keep 33 = .ok (.aload_n 0, 1) := by decide +kernel
theorem dX11_keep_34 : decode cX11_keep 34 = .ok (.iconst 1, 1) := by decide +kernel
theorem dX11_keep_35 : decode cX11_keep 35 = .ok (.putfield 365, 3) := by decide +kernel
theorem dX11_keep_38 : decode cX11_keep 38 = .ok (.iconst 1, 1) := by decide +kernel
theorem dX11_keep_39 : decode cX11_keep 39 = .ok (.ireturn, 1) := by decide +kernel
theorem dX11_again_0 : decode cX11_again 0 = .ok (.aload_n 0, 1) := by decide +kernel
theorem dX11_again_1 : decode cX11_again 1 = .ok (.getfield 365, 3) := by decide +kernel
theorem dX11_again_4 : decode cX11_again 4 = .ok (.ifCond .ne 6, 3) := by decide +kernel
theorem dX11_again_7 : decode cX11_again 7 = .ok (.bipush (-3), 2) := by decide +kernel
theorem dX11_again_9 : decode cX11_again 9 = .ok (.ireturn, 1) := by decide +kernel
theorem dX11_again_10 : decode cX11_again 10 = .ok (.aload_n 0, 1) := by decide +kernel
theorem dX11_again_11 : decode cX11_again 11 = .ok (.getfield 66, 3) := by decide +kernel
theorem dX11_again_14 : decode cX11_again 14 = .ok (.aload_n 0, 1) := by decide +kernel
theorem dX11_again_15 : decode cX11_again 15 = .ok (.getfield 70, 3) := by decide +kernel
theorem dX11_again_18 : decode cX11_again 18 = .ok (.invokevirtual 180, 3) := by decide +kernel
theorem dX11_again_21 : decode cX11_again 21 = .ok (.aload_n 0, 1) := by decide +kernel
theorem dX11_again_22 : decode cX11_again 22 = .ok (.getfield 18, 3) := by decide +kernel
theorem dX11_again_25 : decode cX11_again 25 = .ok (.aload_n 0, 1) := by decide +kernel
theorem dX11_again_26 : decode cX11_again 26 = .ok (.getfield 25, 3) := by decide +kernel
theorem dX11_again_29 : decode cX11_again 29 = .ok (.invokevirtual 167, 3) := by decide +kernel
theorem dX11_again_32 : decode cX11_again 32 = .ok (.aload_n 0, 1) := by decide +kernel
theorem dX11_again_33 : decode cX11_again 33 = .ok (.getfield 31, 3) := by decide +kernel
theorem dX11_again_36 : decode cX11_again 36 = .ok (.aload_n 0, 1) := by decide +kernel
theorem dX11_again_37 : decode cX11_again 37 = .ok (.getfield 35, 3) := by decide +kernel
theorem dX11_again_40 : decode cX11_again 40 = .ok (.invokevirtual 362, 3) := by decide +kernel
theorem dX11_again_43 : decode cX11_again 43 = .ok (.aload_n 0, 1) := by decide +kernel
theorem dX11_again_44 : decode cX11_again 44 = .ok (.getfield 66, 3) := by decide +kernel
theorem dX11_again_47 : decode cX11_again 47 = .ok (.getfield 96, 3) := by decide +kernel
theorem dX11_again_50 : decode cX11_again 50 = .ok (.ireturn, 1) := by decide +kernel
theorem dX11_suits_0 : decode cX11_suits 0 = .ok (.iload_n 0, 1) := by decide +kernel
theorem dX11_suits_1 : decode cX11_suits 1 = .ok (.ifCond .lt 30, 3) := by decide +kernel
theorem dX11_suits_4 : decode cX11_suits 4 = .ok (.iload_n 0, 1) := by decide +kernel
theorem dX11_suits_5 : decode cX11_suits 5 = .ok (.iconst 4, 1) := by decide +kernel
theorem dX11_suits_6 : decode cX11_suits 6 = .ok (.if_icmp .gt 25, 3) := by decide +kernel
theorem dX11_suits_9 : decode cX11_suits 9 = .ok (.iload_n 1, 1) := by decide +kernel
theorem dX11_suits_10 : decode cX11_suits 10 = .ok (.getstatic 368, 3) := by decide +kernel
theorem dX11_suits_13 : decode cX11_suits 13 = .ok (.iload_n 0, 1) := by decide +kernel
theorem dX11_suits_14 : decode cX11_suits 14 = .ok (.iaload, 1) := by decide +kernel
theorem dX11_suits_15 : decode cX11_suits 15 = .ok (.if_icmp .lt 16, 3) := by decide +kernel
theorem dX11_suits_18 : decode cX11_suits 18 = .ok (.iload_n 1, 1) := by decide +kernel
theorem dX11_suits_19 : decode cX11_suits 19 = .ok (.getstatic 371, 3) := by decide +kernel
theorem dX11_suits_22 : decode cX11_suits 22 = .ok (.iload_n 0, 1) := by decide +kernel
theorem dX11_suits_23 : decode cX11_suits 23 = .ok (.iaload, 1) := by decide +kernel
theorem dX11_suits_24 : decode cX11_suits 24 = .ok (.if_icmp .gt 7, 3) := by decide +kernel
theorem dX11_suits_27 : decode cX11_suits 27 = .ok (.iconst 1, 1) := by decide +kernel
theorem dX11_suits_28 : decode cX11_suits 28 = .ok (.goto 4, 3) := by decide +kernel
theorem dX11_suits_31 : decode cX11_suits 31 = .ok (.iconst 0, 1) := by decide +kernel
theorem dX11_suits_32 : decode cX11_suits 32 = .ok (.ireturn, 1) := by decide +kernel
theorem dX11_leastOf_0 : decode cX11_leastOf 0 = .ok (.iconst 0, 1) := by decide +kernel
theorem dX11_leastOf_1 : decode cX11_leastOf 1 = .ok (.istore_n 1, 1) := by decide +kernel
theorem dX11_leastOf_2 : decode cX11_leastOf 2 = .ok (.iload_n 1, 1) := by decide +kernel
theorem dX11_leastOf_3 : decode cX11_leastOf 3 = .ok (.bipush 31, 2) := by decide +kernel
theorem dX11_leastOf_5 : decode cX11_leastOf 5 = .ok (.if_icmp .ge 17, 3) := by decide +kernel
theorem dX11_leastOf_8 : decode cX11_leastOf 8 = .ok (.iload_n 0, 1) := by decide +kernel
theorem dX11_leastOf_9 : decode cX11_leastOf 9 = .ok (.iload_n 1, 1) := by decide +kernel
theorem dX11_leastOf_10 : decode cX11_leastOf 10 = .ok (.ishr, 1) := by decide +kernel
theorem dX11_leastOf_11 : decode cX11_leastOf 11 = .ok (.iconst 1, 1) := by decide +kernel
theorem dX11_leastOf_12 : decode cX11_leastOf 12 = .ok (.iand, 1) := by decide +kernel
theorem dX11_leastOf_13 : decode cX11_leastOf 13 = .ok (.ifCond .ne 9, 3) := by decide +kernel
theorem dX11_leastOf_16 : decode cX11_leastOf 16 = .ok (.iinc 1 1, 3) := by decide +kernel
theorem dX11_leastOf_19 : decode cX11_leastOf 19 = .ok (.goto (-17), 3) := by decide +kernel
theorem dX11_leastOf_22 : decode cX11_leastOf 22 = .ok (.iload_n 1, 1) := by decide +kernel
theorem dX11_leastOf_23 : decode cX11_leastOf 23 = .ok (.ireturn, 1) := by decide +kernel
theorem dX11_isMachine_0 : decode cX11_isMachine 0 = .ok (.iload_n 0, 1) := by decide +kernel
theorem dX11_isMachine_1 : decode cX11_isMachine 1 = .ok (.ifCond .lt 22, 3) := by decide +kernel
theorem dX11_isMachine_4 : decode cX11_isMachine 4 = .ok (.iload_n 0, 1) := by decide +kernel
theorem dX11_isMachine_5 : decode cX11_isMachine 5 = .ok (.bipush 6, 2) := by decide +kernel
theorem dX11_isMachine_7 : decode cX11_isMachine 7 = .ok (.if_icmp .ge 16, 3) := by decide +kernel
theorem dX11_isMachine_10 : decode cX11_isMachine 10 = .ok (.iload_n 1, 1) := by decide +kernel
theorem dX11_isMachine_11 : decode cX11_isMachine 11 = .ok (.ifCond .eq 8, 3) := by decide +kernel
theorem dX11_isMachine_14 : decode cX11_isMachine 14 = .ok (.iload_n 1, 1) := by decide +kernel
theorem dX11_isMachine_15 : decode cX11_isMachine 15 = .ok (.iconst 1, 1) := by decide +kernel
theorem dX11_isMachine_16 : decode cX11_isMachine 16 = .ok (.if_icmp .ne 7, 3) := by decide +kernel
theorem dX11_isMachine_19 : decode cX11_isMachine 19 = .ok (.iconst 1, 1) := by decide +kernel
theorem dX11_isMachine_20 : decode cX11_isMachine 20 = .ok (.goto 4, 3) := by decide +kernel
theorem dX11_isMachine_23 : decode cX11_isMachine 23 = .ok (.iconst 0, 1) := by decide +kernel
theorem dX11_isMachine_24 : decode cX11_isMachine 24 = .ok (.ireturn, 1) := by decide +kernel
theorem dX11_isSheet_0 : decode cX11_isSheet 0 = .ok (.iload_n 0, 1) := by decide +kernel
theorem dX11_isSheet_1 : decode cX11_isSheet 1 = .ok (.ifCond .lt 12, 3) := by decide +kernel
theorem dX11_isSheet_4 : decode cX11_isSheet 4 = .ok (.iload_n 0, 1) := by decide +kernel
theorem dX11_isSheet_5 : decode cX11_isSheet 5 = .ok (.iconst 4, 1) := by decide +kernel
theorem dX11_isSheet_6 : decode cX11_isSheet 6 = .ok (.if_icmp .ge 7, 3) := by decide +kernel
theorem dX11_isSheet_9 : decode cX11_isSheet 9 = .ok (.iconst 1, 1) := by decide +kernel
theorem dX11_isSheet_10 : decode cX11_isSheet 10 = .ok (.goto 4, 3) := by decide +kernel
theorem dX11_isSheet_13 : decode cX11_isSheet 13 = .ok (.iconst 0, 1) := by decide +kernel
theorem dX11_isSheet_14 : decode cX11_isSheet 14 = .ok (.ireturn, 1) := by decide +kernel
theorem dX11_isShelf_0 : decode cX11_isShelf 0 = .ok (.iload_n 0, 1) := by decide +kernel
theorem dX11_isShelf_1 : decode cX11_isShelf 1 = .ok (.ifCond .lt 12, 3) := by decide +kernel
theorem dX11_isShelf_4 : decode cX11_isShelf 4 = .ok (.iload_n 0, 1) := by decide +kernel
theorem dX11_isShelf_5 : decode cX11_isShelf 5 = .ok (.iconst 4, 1) := by decide +kernel
theorem dX11_isShelf_6 : decode cX11_isShelf 6 = .ok (.if_icmp .ge 7, 3) := by decide +kernel
theorem dX11_isShelf_9 : decode cX11_isShelf 9 = .ok (.iconst 1, 1) := by decide +kernel
theorem dX11_isShelf_10 : decode cX11_isShelf 10 = .ok (.goto 4, 3) := by decide +kernel
theorem dX11_isShelf_13 : decode cX11_isShelf 13 = .ok (.iconst 0, 1) := by decide +kernel
theorem dX11_isShelf_14 : decode cX11_isShelf 14 = .ok (.ireturn, 1) := by decide +kernel
theorem dX11_isInRow_0 : decode cX11_isInRow 0 = .ok (.iload_n 1, 1) := by decide +kernel
theorem dX11_isInRow_1 : decode cX11_isInRow 1 = .ok (.ifCond .lt 24, 3) := by decide +kernel
theorem dX11_isInRow_4 : decode cX11_isInRow 4 = .ok (.iload_n 1, 1) := by decide +kernel
theorem dX11_isInRow_5 : decode cX11_isInRow 5 = .ok (.aload_n 0, 1) := by decide +kernel
theorem dX11_isInRow_6 : decode cX11_isInRow 6 = .ok (.getfield 275, 3) := by decide +kernel
theorem dX11_isInRow_9 : decode cX11_isInRow 9 = .ok (.if_icmp .ge 16, 3) := by decide +kernel
theorem dX11_isInRow_12 : decode cX11_isInRow 12 = .ok (.iload_n 2, 1) := by decide +kernel
theorem dX11_isInRow_13 : decode cX11_isInRow 13 = .ok (.ifCond .lt 12, 3) := by decide +kernel
theorem dX11_isInRow_16 : decode cX11_isInRow 16 = .ok (.iload_n 2, 1) := by decide +kernel
theorem dX11_isInRow_17 : decode cX11_isInRow 17 = .ok (.iconst 3, 1) := by decide +kernel
theorem dX11_isInRow_18 : decode cX11_isInRow 18 = .ok (.if_icmp .ge 7, 3) := by decide +kernel
theorem dX11_isInRow_21 : decode cX11_isInRow 21 = .ok (.iconst 1, 1) := by decide +kernel
theorem dX11_isInRow_22 : decode cX11_isInRow 22 = .ok (.goto 4, 3) := by decide +kernel
theorem dX11_isInRow_25 : decode cX11_isInRow 25 = .ok (.iconst 0, 1) := by decide +kernel
theorem dX11_isInRow_26 : decode cX11_isInRow 26 = .ok (.ireturn, 1) := by decide +kernel
theorem dX11_holdsSet_0 : decode cX11_holdsSet 0 = .ok (.aload_n 0, 1) := by decide +kernel
theorem dX11_holdsSet_1 : decode cX11_holdsSet 1 = .ok (.getfield 88, 3) := by decide +kernel
theorem dX11_holdsSet_4 : decode cX11_holdsSet 4 = .ok (.getfield 316, 3) := by decide +kernel
theorem dX11_holdsSet_7 : decode cX11_holdsSet 7 = .ok (.iload_n 1, 1) := by decide +kernel
theorem dX11_holdsSet_8 : decode cX11_holdsSet 8 = .ok (.iaload, 1) := by decide +kernel
theorem dX11_holdsSet_9 : decode cX11_holdsSet 9 = .ok (.ifCond .ne 26, 3) := by decide +kernel
theorem dX11_holdsSet_12 : decode cX11_holdsSet 12 = .ok (.aload_n 0, 1) := by decide +kernel
theorem dX11_holdsSet_13 : decode cX11_holdsSet 13 = .ok (.getfield 66, 3) := by decide +kernel
theorem dX11_holdsSet_16 : decode cX11_holdsSet 16 = .ok (.aload_n 0, 1) := by decide +kernel
theorem dX11_holdsSet_17 : decode cX11_holdsSet 17 = .ok (.getfield 88, 3) := by decide +kernel
theorem dX11_holdsSet_20 : decode cX11_holdsSet 20 = .ok (.getfield 319, 3) := by decide +kernel
theorem dX11_holdsSet_23 : decode cX11_holdsSet 23 = .ok (.iload_n 1, 1) := by decide +kernel
theorem dX11_holdsSet_24 : decode cX11_holdsSet 24 = .ok (.iaload, 1) := by decide +kernel
theorem dX11_holdsSet_25 : decode cX11_holdsSet 25 = .ok (.invokevirtual 104, 3) := by decide +kernel
theorem dX11_holdsSet_28 : decode cX11_holdsSet 28 = .ok (.ifCond .eq 7, 3) := by decide +kernel
theorem dX11_holdsSet_31 : decode cX11_holdsSet 31 = .ok (.iconst 1, 1) := by decide +kernel
theorem dX11_holdsSet_32 : decode cX11_holdsSet 32 = .ok (.goto 4, 3) := by decide +kernel
theorem dX11_holdsSet_35 : decode cX11_holdsSet 35 = .ok (.iconst 0, 1) := by decide +kernel
theorem dX11_holdsSet_36 : decode cX11_holdsSet 36 = .ok (.ireturn, 1) := by decide +kernel
theorem dX11_bestFor_0 : decode cX11_bestFor 0 = .ok (.iconst (-1), 1) := by decide +kernel
theorem dX11_bestFor_1 : decode cX11_bestFor 1 = .ok (.istore_n 3, 1) := by decide +kernel
theorem dX11_bestFor_2 : decode cX11_bestFor 2 = .ok (.getstatic 368, 3) := by decide +kernel
theorem dX11_bestFor_5 : decode cX11_bestFor 5 = .ok (.iload_n 2, 1) := by decide +kernel
theorem dX11_bestFor_6 : decode cX11_bestFor 6 = .ok (.iaload, 1) := by decide +kernel
theorem dX11_bestFor_7 : decode cX11_bestFor 7 = .ok (.istore 4, 2) := by decide +kernel
theorem dX11_bestFor_9 : decode cX11_bestFor 9 = .ok (.getstatic 368, 3) := by decide +kernel
theorem dX11_bestFor_12 : decode cX11_bestFor 12 = .ok (.iload_n 2, 1) := by decide +kernel
theorem dX11_bestFor_13 : decode cX11_bestFor 13 = .ok (.iaload, 1) := by decide +kernel
theorem dX11_bestFor_14 : decode cX11_bestFor 14 = .ok (.istore 5, 2) := by decide +kernel
theorem dX11_bestFor_16 : decode cX11_bestFor 16 = .ok (.iload 5, 2) := by decide +kernel
theorem dX11_bestFor_18 : decode cX11_bestFor 18 = .ok (.getstatic 371, 3) := by decide +kernel
theorem dX11_bestFor_21 : decode cX11_bestFor 21 = .ok (.iload_n 2, 1) := by decide +kernel
theorem dX11_bestFor_22 : decode cX11_bestFor 22 = .ok (.iaload, 1) := by decide +kernel
theorem dX11_bestFor_23 : decode cX11_bestFor 23 = .ok (.if_icmp .gt 57, 3) := by decide +kernel
theorem dX11_bestFor_26 : decode cX11_bestFor 26 = .ok (.aload_n 0, 1) := by decide +kernel
theorem dX11_bestFor_27 : decode cX11_bestFor 27 = .ok (.getfield 73, 3) := by decide +kernel
theorem dX11_bestFor_30 : decode cX11_bestFor 30 = .ok (.aload_n 0, 1) := by decide +kernel
theorem dX11_bestFor_31 : decode cX11_bestFor 31 = .ok (.getfield 66, 3) := by decide +kernel
theorem dX11_bestFor_34 : decode cX11_bestFor 34 = .ok (.invokevirtual 180, 3) := by decide +kernel
theorem dX11_bestFor_37 : decode cX11_bestFor 37 = .ok (.aload_n 0, 1) := by decide +kernel
theorem dX11_bestFor_38 : decode cX11_bestFor 38 = .ok (.getfield 73, 3) := by decide +kernel
theorem dX11_bestFor_41 : decode cX11_bestFor 41 = .ok (.getfield 108, 3) := by decide +kernel
theorem dX11_bestFor_44 : decode cX11_bestFor 44 = .ok (.iload_n 2, 1) := by decide +kernel
theorem dX11_bestFor_45 : decode cX11_bestFor 45 = .ok (.aaload, 1) := by decide +kernel
theorem dX11_bestFor_46 : decode cX11_bestFor 46 = .ok (.iload_n 1, 1) := by decide +kernel
theorem dX11_bestFor_47 : decode cX11_bestFor 47 = .ok (.iload 5, 2) := by decide +kernel
theorem dX11_bestFor_49 : decode cX11_bestFor 49 = .ok (.iastore, 1) := by decide +kernel
theorem dX11_bestFor_50 : decode cX11_bestFor 50 = .ok (.aload_n 0, 1) := by decide +kernel
theorem dX11_bestFor_51 : decode cX11_bestFor 51 = .ok (.getfield 73, 3) := by decide +kernel
theorem dX11_bestFor_54 : decode cX11_bestFor 54 = .ok (.bipush 16, 2) := by decide +kernel
theorem dX11_bestFor_56 : decode cX11_bestFor 56 = .ok (.invokevirtual 183, 3) := by decide +kernel
theorem dX11_bestFor_59 : decode cX11_bestFor 59 = .ok (.istore 6, 2) := by decide +kernel
theorem dX11_bestFor_61 : decode cX11_bestFor 61 = .ok (.iload 6, 2) := by decide +kernel
theorem dX11_bestFor_63 : decode cX11_bestFor 63 = .ok (.iload_n 3, 1) := by decide +kernel
theorem dX11_bestFor_64 : decode cX11_bestFor 64 = .ok (.if_icmp .le 10, 3) := by decide +kernel
theorem dX11_bestFor_67 : decode cX11_bestFor 67 = .ok (.iload 6, 2) := by decide +kernel
theorem dX11_bestFor_69 : decode cX11_bestFor 69 = .ok (.istore_n 3, 1) := by decide +kernel
theorem dX11_bestFor_70 : decode cX11_bestFor 70 = .ok (.iload 5, 2) := by decide +kernel
theorem dX11_bestFor_72 : decode cX11_bestFor 72 = .ok (.istore 4, 2) := by decide +kernel
theorem dX11_bestFor_74 : decode cX11_bestFor 74 = .ok (.iinc 5 1, 3) := by decide +kernel
theorem dX11_bestFor_77 : decode cX11_bestFor 77 = .ok (.goto (-61), 3) := by decide +kernel
theorem dX11_bestFor_80 : decode cX11_bestFor 80 = .ok (.iload 4, 2) := by decide +kernel
theorem dX11_bestFor_82 : decode cX11_bestFor 82 = .ok (.ireturn, 1) := by decide +kernel
theorem dX12_init_0 : decode cX12_init 0 = .ok (.aload_n 0, 1) := by decide +kernel
theorem dX12_init_1 : decode cX12_init 1 = .ok (.invokespecial 1, 3) := by decide +kernel
theorem dX12_init_4 : decode cX12_init 4 = .ok (.aload_n 0, 1) := by decide +kernel
theorem dX12_init_5 : decode cX12_init 5 = .ok (.sipush 553, 3) := by decide +kernel
theorem dX12_init_8 : decode cX12_init 8 = .ok (.newarray .int, 2) := by decide +kernel
theorem dX12_init_10 : decode cX12_init 10 = .ok (.putfield 7, 3) := by decide +kernel
theorem dX12_init_13 : decode cX12_init 13 = .ok (.aload_n 0, 1) := by decide +kernel
theorem dX12_init_14 : decode cX12_init 14 = .ok (.sipush 553, 3) := by decide +kernel
theorem dX12_init_17 : decode cX12_init 17 = .ok (.newarray .int, 2) := by decide +kernel
theorem dX12_init_19 : decode cX12_init 19 = .ok (.putfield 13, 3) := by decide +kernel
theorem dX12_init_22 : decode cX12_init 22 = .ok (.aload_n 0, 1) := by decide +kernel
theorem dX12_init_23 : decode cX12_init 23 = .ok (.sipush 235, 3) := by decide +kernel
theorem dX12_init_26 : decode cX12_init 26 = .ok (.newarray .int, 2) := by decide +kernel
theorem dX12_init_28 : decode cX12_init 28 = .ok (.putfield 16, 3) := by decide +kernel
theorem dX12_init_31 : decode cX12_init 31 = .ok (.aload_n 0, 1) := by decide +kernel
theorem dX12_init_32 : decode cX12_init 32 = .ok (.sipush 200, 3) := by decide +kernel
theorem dX12_init_35 : decode cX12_init 35 = .ok (.newarray .int, 2) := by decide +kernel
theorem dX12_init_37 : decode cX12_init 37 = .ok (.putfield 19, 3) := by decide +kernel
theorem dX12_init_40 : decode cX12_init 40 = .ok (.aload_n 0, 1) := by decide +kernel
theorem dX12_init_41 : decode cX12_init 41 = .ok (.sipush 553, 3) := by decide +kernel
theorem dX12_init_44 : decode cX12_init 44 = .ok (.newarray .int, 2) := by decide +kernel
theorem dX12_init_46 : decode cX12_init 46 = .ok (.putfield 22, 3) := by decide +kernel
theorem dX12_init_49 : decode cX12_init 49 = .ok (.aload_n 0, 1) := by decide +kernel
theorem dX12_init_50 : decode cX12_init 50 = .ok (.iconst 4, 1) := by decide +kernel
theorem dX12_init_51 : decode cX12_init 51 = .ok (.newarray .int, 2) := by decide +kernel
theorem dX12_init_53 : decode cX12_init 53 = .ok (.putfield 25, 3) := by decide +kernel
theorem dX12_init_56 : decode cX12_init 56 = .ok (.aload_n 0, 1) := by decide +kernel
theorem dX12_init_57 : decode cX12_init 57 = .ok (.iconst 4, 1) := by decide +kernel
theorem dX12_init_58 : decode cX12_init 58 = .ok (.newarray .int, 2) := by decide +kernel
theorem dX12_init_60 : decode cX12_init 60 = .ok (.putfield 28, 3) := by decide +kernel
theorem dX12_init_63 : decode cX12_init 63 = .ok (.aload_n 0, 1) := by decide +kernel
theorem dX12_init_64 : decode cX12_init 64 = .ok (.bipush 12, 2) := by decide +kernel
theorem dX12_init_66 : decode cX12_init 66 = .ok (.newarray .int, 2) := by decide +kernel
theorem dX12_init_68 : decode cX12_init 68 = .ok (.putfield 31, 3) := by decide +kernel
theorem dX12_init_71 : decode cX12_init 71 = .ok (.aload_n 0, 1) := by decide +kernel
theorem dX12_init_72 : decode cX12_init 72 = .ok (.iconst 4, 1) := by decide +kernel
theorem dX12_init_73 : decode cX12_init 73 = .ok (.newarray .int, 2) := by decide +kernel
theorem dX12_init_75 : decode cX12_init 75 = .ok (.dup, 1) := by decide +kernel
theorem dX12_init_76 : decode cX12_init 76 = .ok (.iconst 0, 1) := by decide +kernel
theorem dX12_init_77 : decode cX12_init 77 = .ok (.iconst (-1), 1) := by decide +kernel
theorem dX12_init_78 : decode cX12_init 78 = .ok (.iastore, 1) := by decide +kernel
theorem dX12_init_79 : decode cX12_init 79 = .ok (.dup, 1) := by decide +kernel
theorem dX12_init_80 : decode cX12_init 80 = .ok (.iconst 1, 1) := by decide +kernel
theorem dX12_init_81 : decode cX12_init 81 = .ok (.iconst (-1), 1) := by decide +kernel
theorem dX12_init_82 : decode cX12_init 82 = .ok (.iastore, 1) := by decide +kernel
theorem dX12_init_83 : decode cX12_init 83 = .ok (.dup, 1) := by decide +kernel
theorem dX12_init_84 : decode cX12_init 84 = .ok (.iconst 2, 1) := by decide +kernel
theorem dX12_init_85 : decode cX12_init 85 = .ok (.iconst (-1), 1) := by decide +kernel
theorem dX12_init_86 : decode cX12_init 86 = .ok (.iastore, 1) := by decide +kernel
theorem dX12_init_87 : decode cX12_init 87 = .ok (.dup, 1) := by decide +kernel
theorem dX12_init_88 : decode cX12_init 88 = .ok (.iconst 3, 1) := by decide +kernel
theorem dX12_init_89 : decode cX12_init 89 = .ok (.iconst (-1), 1) := by decide +kernel
theorem dX12_init_90 : decode cX12_init 90 = .ok (.iastore, 1) := by decide +kernel
theorem dX12_init_91 : decode cX12_init 91 = .ok (.putfield 34, 3) := by decide +kernel
theorem dX12_init_94 : decode cX12_init 94 = .ok (.aload_n 0, 1) := by decide +kernel
theorem dX12_init_95 : decode cX12_init 95 = .ok (.iconst 4, 1) := by decide +kernel
theorem dX12_init_96 : decode cX12_init 96 = .ok (.newarray .int, 2) := by decide +kernel
theorem dX12_init_98 : decode cX12_init 98 = .ok (.putfield 37, 3) := by decide +kernel
theorem dX12_init_101 : decode cX12_init 101 = .ok (.aload_n 0, 1) := by decide +kernel
theorem dX12_init_102 : decode cX12_init 102 = .ok (.sipush 160, 3) := by decide +kernel
theorem dX12_init_105 : decode cX12_init 105 = .ok (.newarray .int, 2) := by decide +kernel
theorem dX12_init_107 : decode cX12_init 107 = .ok (.putfield 40, 3) := by decide +kernel
theorem dX12_init_110 : decode cX12_init 110 = .ok (.aload_n 0, 1) := by decide +kernel
theorem dX12_init_111 : decode cX12_init 111 = .ok (.iconst 4, 1) := by decide +kernel
theorem dX12_init_112 : decode cX12_init 112 = .ok (.newarray .int, 2) := by decide +kernel
theorem dX12_init_114 : decode cX12_init 114 = .ok (.putfield 43, 3) := by decide +kernel
theorem dX12_init_117 : decode cX12_init 117 = .ok (.aload_n 0, 1) := by decide +kernel
theorem dX12_init_118 : decode cX12_init 118 = .ok (.iconst 4, 1) := by decide +kernel
theorem dX12_init_119 : decode cX12_init 119 = .ok (.newarray .int, 2) := by decide +kernel
theorem dX12_init_121 : decode cX12_init 121 = .ok (.putfield 46, 3) := by decide +kernel
theorem dX12_init_124 : decode cX12_init 124 = .ok (.aload_n 0, 1) := by decide +kernel
theorem dX12_init_125 : decode cX12_init 125 = .ok (.iconst 4, 1) := by decide +kernel
theorem dX12_init_126 : decode cX12_init 126 = .ok (.newarray .int, 2) := by decide +kernel
theorem dX12_init_128 : decode cX12_init 128 = .ok (.putfield 49, 3) := by decide +kernel
theorem dX12_init_131 : decode cX12_init 131 = .ok (.aload_n 0, 1) := by decide +kernel
theorem dX12_init_132 : decode cX12_init 132 = .ok (.bipush 30, 2) := by decide +kernel
theorem dX12_init_134 : decode cX12_init 134 = .ok (.newarray .int, 2) := by decide +kernel
theorem dX12_init_136 : decode cX12_init 136 = .ok (.putfield 52, 3) := by decide +kernel
theorem dX12_init_139 : decode cX12_init 139 = .ok (.aload_n 0, 1) := by decide +kernel
theorem dX12_init_140 : decode cX12_init 140 = .ok (.getfield 7, 3) := by decide +kernel
theorem dX12_init_143 : decode cX12_init 143 = .ok (.iconst 2, 1) := by decide +kernel
theorem dX12_init_144 : decode cX12_init 144 = .ok (.bipush 12, 2) := by decide +kernel
theorem dX12_init_146 : decode cX12_init 146 = .ok (.iastore, 1) := by decide +kernel
theorem dX12_init_147 : decode cX12_init 147 = .ok (.aload_n 0, 1) := by decide +kernel
theorem dX12_init_148 : decode cX12_init 148 = .ok (.getfield 7, 3) := by decide +kernel
theorem dX12_init_151 : decode cX12_init 151 = .ok (.iconst 4, 1) := by decide +kernel
theorem dX12_init_152 : decode cX12_init 152 = .ok (.iconst 1, 1) := by decide +kernel
theorem dX12_init_153 : decode cX12_init 153 = .ok (.iastore, 1) := by decide +kernel
theorem dX12_init_154 : decode cX12_init 154 = .ok (.return_, 1) := by decide +kernel
theorem dX12_isIn_0 : decode cX12_isIn 0 = .ok (.lload_n 0, 1) := by decide +kernel
theorem dX12_isIn_1 : decode cX12_isIn 1 = .ok (.lload_n 2, 1) := by decide +kernel
theorem dX12_isIn_2 : decode cX12_isIn 2 = .ok (.lcmp, 1) := by decide +kernel
theorem dX12_isIn_3 : decode cX12_isIn 3 = .ok (.ifCond .lt 14, 3) := by decide +kernel
theorem dX12_isIn_6 : decode cX12_isIn 6 = .ok (.lload_n 0, 1) := by decide +kernel
theorem dX12_isIn_7 : decode cX12_isIn 7 = .ok (.lload 4, 2) := by decide +kernel
theorem dX12_isIn_9 : decode cX12_isIn 9 = .ok (.lcmp, 1) := by decide +kernel
theorem dX12_isIn_10 : decode cX12_isIn 10 = .ok (.ifCond .gt 7, 3) := by decide +kernel
theorem dX12_isIn_13 : decode cX12_isIn 13 = .ok (.iconst 1, 1) := by decide +kernel
theorem dX12_isIn_14 : decode cX12_isIn 14 = .ok (.goto 4, 3) := by decide +kernel
theorem dX12_isIn_17 : decode cX12_isIn 17 = .ok (.iconst 0, 1) := by decide +kernel
theorem dX12_isIn_18 : decode cX12_isIn 18 = .ok (.ireturn, 1) := by decide +kernel
theorem dX12_isOne_0 : decode cX12_isOne 0 = .ok (.iload_n 1, 1) := by decide +kernel
theorem dX12_isOne_1 : decode cX12_isOne 1 = .ok (.ifCond .lt 17, 3) := by decide +kernel
theorem dX12_isOne_4 : decode cX12_isOne 4 = .ok (.iload_n 1, 1) := by decide +kernel
theorem dX12_isOne_5 : decode cX12_isOne 5 = .ok (.aload_n 0, 1) := by decide +kernel
theorem dX12_isOne_6 : decode cX12_isOne 6 = .ok (.getfield 7, 3) := by decide +kernel
theorem dX12_isOne_9 : decode cX12_isOne 9 = .ok (.iconst 0, 1) := by decide +kernel
theorem dX12_isOne_10 : decode cX12_isOne 10 = .ok (.iaload, 1) := by decide +kernel
theorem dX12_isOne_11 : decode cX12_isOne 11 = .ok (.if_icmp .ge 7, 3) := by decide +kernel
theorem dX12_isOne_14 : decode cX12_isOne 14 = .ok (.iconst 1, 1) := by decide +kernel
theorem dX12_isOne_15 : decode cX12_isOne 15 = .ok (.goto 4, 3) := by decide +kernel
theorem dX12_isOne_18 : decode cX12_isOne 18 = .ok (.iconst 0, 1) := by decide +kernel
theorem dX12_isOne_19 : decode cX12_isOne 19 = .ok (.ireturn, 1) := by decide +kernel
theorem dX12_isMachine_0 : decode cX12_isMachine 0 = .ok (.iload_n 0, 1) := by decide +kernel
theorem dX12_isMachine_1 : decode cX12_isMachine 1 = .ok (.ifCond .lt 13, 3) := by decide +kernel
theorem dX12_isMachine_4 : decode cX12_isMachine 4 = .ok (.iload_n 0, 1) := by decide +kernel
theorem dX12_isMachine_5 : decode cX12_isMachine 5 = .ok (.bipush 6, 2) := by decide +kernel
theorem dX12_isMachine_7 : decode cX12_isMachine 7 = .ok (.if_icmp .ge 7, 3) := by decide +kernel
theorem dX12_isMachine_10 : decode cX12_isMachine 10 = .ok (.iconst 1, 1) := by decide +kernel
theorem dX12_isMachine_11 : decode cX12_isMachine 11 = .ok (.goto 4, 3) := by decide +kernel
theorem dX12_isMachine_14 : decode cX12_isMachine 14 = .ok (.iconst 0, 1) := by decide +kernel
theorem dX12_isMachine_15 : decode cX12_isMachine 15 = .ok (.ireturn, 1) := by decide +kernel
theorem dX12_its_0 : decode cX12_its 0 = .ok (.aload_n 0, 1) := by decide +kernel
theorem dX12_its_1 : decode cX12_its 1 = .ok (.getfield 7, 3) := by decide +kernel
theorem dX12_its_4 : decode cX12_its 4 = .ok (.bipush 8, 2) := by decide +kernel
theorem dX12_its_6 : decode cX12_its 6 = .ok (.iconst 5, 1) := by decide +kernel
theorem dX12_its_7 : decode cX12_its 7 = .ok (.iload_n 1, 1) := by decide +kernel
theorem dX12_its_8 : decode cX12_its 8 = .ok (.imul, 1) := by decide +kernel
theorem dX12_its_9 : decode cX12_its 9 = .ok (.iadd, 1) := by decide +kernel
theorem dX12_its_10 : decode cX12_its 10 = .ok (.iload_n 2, 1) := by decide +kernel
theorem dX12_its_11 : decode cX12_its 11 = .ok (.iadd, 1) := by decide +kernel
theorem dX12_its_12 : decode cX12_its 12 = .ok (.iaload, 1) := by decide +kernel
theorem dX12_its_13 : decode cX12_its 13 = .ok (.ireturn, 1) := by decide +kernel
theorem dX12_becomes_0 : decode cX12_becomes 0 = .ok (.aload_n 0, 1) := by decide +kernel
theorem dX12_becomes_1 : decode cX12_becomes 1 = .ok (.getfield 7, 3) := by decide +kernel
theorem dX12_becomes_4 : decode cX12_becomes 4 = .ok (.iload_n 1, 1) := by decide +kernel
theorem dX12_becomes_5 : decode cX12_becomes 5 = .ok (.iaload, 1) := by decide +kernel
theorem dX12_becomes_6 : decode cX12_becomes 6 = .ok (.istore_n 3, 1) := by decide +kernel
theorem dX12_becomes_7 : decode cX12_becomes 7 = .ok (.aload_n 0, 1) := by decide +kernel
theorem dX12_becomes_8 : decode cX12_becomes 8 = .ok (.getfield 7, 3) := by decide +kernel
theorem dX12_becomes_11 : decode cX12_becomes 11 = .ok (.iload_n 1, 1) := by decide +kernel
theorem dX12_becomes_12 : decode cX12_becomes 12 = .ok (.iload_n 2, 1) := by decide +kernel
theorem dX12_becomes_13 : decode cX12_becomes 13 = .ok (.iastore, 1) := by decide +kernel
theorem dX12_becomes_14 : decode cX12_becomes 14 = .ok (.iload_n 3, 1) := by decide +kernel
theorem dX12_becomes_15 : decode cX12_becomes 15 = .ok (.ireturn, 1) := by decide +kernel
theorem dX12_laysAside_0 : decode cX12_laysAside 0 = .ok (.iconst 0, 1) := by decide +kernel
theorem dX12_laysAside_1 : decode cX12_laysAside 1 = .ok (.istore_n 2, 1) := by decide +kernel
theorem dX12_laysAside_2 : decode cX12_laysAside 2 = .ok (.iload_n 2, 1) := by decide +kernel
theorem dX12_laysAside_3 : decode cX12_laysAside 3 = .ok (.bipush 47, 2) := by decide +kernel
theorem dX12_laysAside_5 : decode cX12_laysAside 5 = .ok (.if_icmp .ge 26, 3) := by decide +kernel
theorem dX12_laysAside_8 : decode cX12_laysAside 8 = .ok (.aload_n 0, 1) := by decide +kernel
theorem dX12_laysAside_9 : decode cX12_laysAside 9 = .ok (.getfield 16, 3) := by decide +kernel
theorem dX12_laysAside_12 : decode cX12_laysAside 12 = .ok (.bipush 47, 2) := by decide +kernel
theorem dX12_laysAside_14 : decode cX12_laysAside 14 = .ok (.iload_n 1, 1) := by decide +kernel
theorem dX12_laysAside_15 : decode cX12_laysAside 15 = .ok (.imul, 1) := by decide +kernel
theorem dX12_laysAside_16 : decode cX12_laysAside 16 = .ok (.iload_n 2, 1) := by decide +kernel
theorem dX12_laysAside_17 : decode cX12_laysAside 17 = .ok (.iadd, 1) := by decide +kernel
theorem dX12_laysAside_18 : decode cX12_laysAside 18 = .ok (.aload_n 0, 1) := by decide +kernel
theorem dX12_laysAside_19 : decode cX12_laysAside 19 = .ok (.getfield 7, 3) := by decide +kernel
theorem dX12_laysAside_22 : decode cX12_laysAside 22 = .ok (.iload_n 2, 1) := by decide +kernel
theorem dX12_laysAside_23 : decode cX12_laysAside 23 = .ok (.iaload, 1) := by decide +kernel
theorem dX12_laysAside_24 : decode cX12_laysAside 24 = .ok (.iastore, 1) := by decide +kernel
theorem dX12_laysAside_25 : decode cX12_laysAside 25 = .ok (.iinc 2 1, 3) := by decide +kernel
theorem dX12_laysAside_28 : decode cX12_laysAside 28 = .ok (.goto (-26), 3) := by decide +kernel
theorem dX12_laysAside_31 : decode cX12_laysAside 31 = .ok (.return_, 1) := by decide +kernel
theorem dX12_laysBack_0 : decode cX12_laysBack 0 = .ok (.iconst 0, 1) := by decide +kernel
theorem dX12_laysBack_1 : decode cX12_laysBack 1 = .ok (.istore_n 2, 1) := by decide +kernel
theorem dX12_laysBack_2 : decode cX12_laysBack 2 = .ok (.iload_n 2, 1) := by decide +kernel
theorem dX12_laysBack_3 : decode cX12_laysBack 3 = .ok (.bipush 47, 2) := by decide +kernel
theorem dX12_laysBack_5 : decode cX12_laysBack 5 = .ok (.if_icmp .ge 26, 3) := by decide +kernel
theorem dX12_laysBack_8 : decode cX12_laysBack 8 = .ok (.aload_n 0, 1) := by decide +kernel
theorem dX12_laysBack_9 : decode cX12_laysBack 9 = .ok (.getfield 7, 3) := by decide +kernel
theorem dX12_laysBack_12 : decode cX12_laysBack 12 = .ok (.iload_n 2, 1) := by decide +kernel
theorem dX12_laysBack_13 : decode cX12_laysBack 13 = .ok (.aload_n 0, 1) := by decide +kernel
theorem dX12_laysBack_14 : decode cX12_laysBack 14 = .ok (.getfield 16, 3) := by decide +kernel
theorem dX12_laysBack_17 : decode cX12_laysBack 17 = .ok (.bipush 47, 2) := by decide +kernel
theorem dX12_laysBack_19 : decode cX12_laysBack 19 = .ok (.iload_n 1, 1) := by decide +kernel
theorem dX12_laysBack_20 : decode cX12_laysBack 20 = .ok (.imul, 1) := by decide +kernel
theorem dX12_laysBack_21 : decode cX12_laysBack 21 = .ok (.iload_n 2, 1) := by decide +kernel
theorem dX12_laysBack_22 : decode cX12_laysBack 22 = .ok (.iadd, 1) := by decide +kernel
theorem dX12_laysBack_23 : decode cX12_laysBack 23 = .ok (.iaload, 1) := by decide +kernel
theorem dX12_laysBack_24 : decode cX12_laysBack 24 = .ok (.iastore, 1) := by decide +kernel
theorem dX12_laysBack_25 : decode cX12_laysBack 25 = .ok (.iinc 2 1, 3) := by decide +kernel
theorem dX12_laysBack_28 : decode cX12_laysBack 28 = .ok (.goto (-26), 3) := by decide +kernel
theorem dX12_laysBack_31 : decode cX12_laysBack 31 = .ok (.return_, 1) := by decide +kernel
theorem dX12_isOver_0 : decode cX12_isOver 0 = .ok (.aload_n 0, 1) := by decide +kernel
theorem dX12_isOver_1 : decode cX12_isOver 1 = .ok (.getfield 7, 3) := by decide +kernel
theorem dX12_isOver_4 : decode cX12_isOver 4 = .ok (.iconst 1, 1) := by decide +kernel
theorem dX12_isOver_5 : decode cX12_isOver 5 = .ok (.iaload, 1) := by decide +kernel
theorem dX12_isOver_6 : decode cX12_isOver 6 = .ok (.aload_n 0, 1) := by decide +kernel
theorem dX12_isOver_7 : decode cX12_isOver 7 = .ok (.getfield 7, 3) := by decide +kernel
theorem dX12_isOver_10 : decode cX12_isOver 10 = .ok (.iconst 2, 1) := by decide +kernel
theorem dX12_isOver_11 : decode cX12_isOver 11 = .ok (.iaload, 1) := by decide +kernel
theorem dX12_isOver_12 : decode cX12_isOver 12 = .ok (.if_icmp .lt 7, 3) := by decide +kernel
theorem dX12_isOver_15 : decode cX12_isOver 15 = .ok (.iconst 1, 1) := by decide +kernel
theorem dX12_isOver_16 : decode cX12_isOver 16 = .ok (.goto 4, 3) := by decide +kernel
theorem dX12_isOver_19 : decode cX12_isOver 19 = .ok (.iconst 0, 1) := by decide +kernel
theorem dX12_isOver_20 : decode cX12_isOver 20 = .ok (.ireturn, 1) := by decide +kernel
theorem dX12_size_0 : decode cX12_size 0 = .ok (.iconst 0, 1) := by decide +kernel
theorem dX12_size_1 : decode cX12_size 1 = .ok (.istore_n 1, 1) := by decide +kernel
theorem dX12_size_2 : decode cX12_size 2 = .ok (.iload_n 0, 1) := by decide +kernel
theorem dX12_size_3 : decode cX12_size 3 = .ok (.istore_n 2, 1) := by decide +kernel
theorem dX12_size_4 : decode cX12_size 4 = .ok (.iload_n 2, 1) := by decide +kernel
theorem dX12_size_5 : decode cX12_size 5 = .ok (.ifCond .eq 15, 3) := by decide +kernel
theorem dX12_size_8 : decode cX12_size 8 = .ok (.iinc 1 1, 3) := by decide +kernel
theorem dX12_size_11 : decode cX12_size 11 = .ok (.iload_n 2, 1) := by decide +kernel
theorem dX12_size_12 : decode cX12_size 12 = .ok (.iload_n 2, 1) := by decide +kernel
theorem dX12_size_13 : decode cX12_size 13 = .ok (.iconst 1, 1) := by decide +kernel
theorem dX12_size_14 : decode cX12_size 14 = .ok (.isub, 1) := by decide +kernel
theorem dX12_size_15 : decode cX12_size 15 = .ok (.iand, 1) := by decide +kernel
theorem dX12_size_16 : decode cX12_size 16 = .ok (.istore_n 2, 1) := by decide +kernel
theorem dX12_size_17 : decode cX12_size 17 = .ok (.goto (-13), 3) := by decide +kernel
theorem dX12_size_20 : decode cX12_size 20 = .ok (.iload_n 1, 1) := by decide +kernel
theorem dX12_size_21 : decode cX12_size 21 = .ok (.ireturn, 1) := by decide +kernel
theorem dX12_least_0 : decode cX12_least 0 = .ok (.iload_n 0, 1) := by decide +kernel
theorem dX12_least_1 : decode cX12_least 1 = .ok (.iload_n 1, 1) := by decide +kernel
theorem dX12_least_2 : decode cX12_least 2 = .ok (.if_icmp .ge 7, 3) := by decide +kernel
theorem dX12_least_5 : decode cX12_least 5 = .ok (.iload_n 0, 1) := by decide +kernel
theorem dX12_least_6 : decode cX12_least 6 = .ok (.goto 4, 3) := by decide +kernel
theorem dX12_least_9 : decode cX12_least 9 = .ok (.iload_n 1, 1) := by decide +kernel
theorem dX12_least_10 : decode cX12_least 10 = .ok (.ireturn, 1) := by decide +kernel
theorem dX12_apart_0 : decode cX12_apart 0 = .ok (.iload_n 0, 1) := by decide +kernel
theorem dX12_apart_1 : decode cX12_apart 1 = .ok (.iload_n 1, 1) := by decide +kernel
theorem dX12_apart_2 : decode cX12_apart 2 = .ok (.if_icmp .ge 9, 3) := by decide +kernel
theorem dX12_apart_5 : decode cX12_apart 5 = .ok (.iload_n 1, 1) := by decide +kernel
theorem dX12_apart_6 : decode cX12_apart 6 = .ok (.iload_n 0, 1) := by decide +kernel
theorem dX12_apart_7 : decode cX12_apart 7 = .ok (.isub, 1) := by decide +kernel
theorem dX12_apart_8 : decode cX12_apart 8 = .ok (.goto 6, 3) := by decide +kernel
theorem dX12_apart_11 : decode cX12_apart 11 = .ok (.iload_n 0, 1) := by decide +kernel
theorem dX12_apart_12 : decode cX12_apart 12 = .ok (.iload_n 1, 1) := by decide +kernel
theorem dX12_apart_13 : decode cX12_apart 13 = .ok (.isub, 1) := by decide +kernel
theorem dX12_apart_14 : decode cX12_apart 14 = .ok (.ireturn, 1) := by decide +kernel
theorem dX12_set_0 : decode cX12_set 0 = .ok (.iload_n 1, 1) := by decide +kernel
theorem dX12_set_1 : decode cX12_set 1 = .ok (.i2l, 1) := by decide +kernel
theorem dX12_set_2 : decode cX12_set 2 = .ok (.lconst 1, 1) := by decide +kernel
theorem dX12_set_3 : decode cX12_set 3 = .ok (.ldc2_w 55, 3) := by decide +kernel
theorem dX12_set_6 : decode cX12_set 6 = .ok (.invokestatic 57, 3) := by decide +kernel
theorem dX12_set_9 : decode cX12_set 9 = .ok (.ifCond .eq 35, 3) := by decide +kernel
theorem dX12_set_12 : decode cX12_set 12 = .ok (.iload_n 2, 1) := by decide +kernel
theorem dX12_set_13 : decode cX12_set 13 = .ok (.invokestatic 61, 3) := by decide +kernel
theorem dX12_set_16 : decode cX12_set 16 = .ok (.ifCond .eq 28, 3) := by decide +kernel
theorem dX12_set_19 : decode cX12_set 19 = .ok (.iload_n 3, 1) := by decide +kernel
theorem dX12_set_20 : decode cX12_set 20 = .ok (.i2l, 1) := by decide +kernel
theorem dX12_set_21 : decode cX12_set 21 = .ok (.lconst 1, 1) := by decide +kernel
theorem dX12_set_22 : decode cX12_set 22 = .ok (.ldc2_w 65, 3) := by decide +kernel
theorem dX12_set_25 : decode cX12_set 25 = .ok (.invokestatic 57, 3) := by decide +kernel
theorem dX12_set_28 : decode cX12_set 28 = .ok (.ifCond .eq 16, 3) := by decide +kernel
theorem dX12_set_31 : decode cX12_set 31 = .ok (.iload 4, 2) := by decide +kernel
theorem dX12_set_33 : decode cX12_set 33 = .ok (.i2l, 1) := by decide +kernel
theorem dX12_set_34 : decode cX12_set 34 = .ok (.lconst 0, 1) := by decide +kernel
theorem dX12_set_35 : decode cX12_set 35 = .ok (.ldc2_w 67, 3) := by decide +kernel
theorem dX12_set_38 : decode cX12_set 38 = .ok (.invokestatic 57, 3) := by decide +kernel
theorem dX12_set_41 : decode cX12_set 41 = .ok (.ifCond .ne 5, 3) := by decide +kernel
theorem dX12_set_44 : decode cX12_set 44 = .ok (.iconst (-1), 1) := by decide +kernel
theorem dX12_set_45 : decode cX12_set 45 = .ok (.ireturn, 1) := by decide +kernel
theorem dX12_set_46 : decode cX12_set 46 = .ok (.aload_n 0, 1) := by decide +kernel
theorem dX12_set_47 : decode cX12_set 47 = .ok (.getfield 7, 3) := by decide +kernel
theorem dX12_set_50 : decode cX12_set 50 = .ok (.iconst 0, 1) := by decide +kernel
theorem dX12_set_51 : decode cX12_set 51 = .ok (.iaload, 1) := by decide +kernel
theorem dX12_set_52 : decode cX12_set 52 = .ok (.bipush 6, 2) := by decide +kernel
theorem dX12_set_54 : decode cX12_set 54 = .ok (.if_icmp .ne 6, 3) := by decide +kernel
theorem dX12_set_57 : decode cX12_set 57 = .ok (.bipush (-2), 2) := by decide +kernel
theorem dX12_set_59 : decode cX12_set 59 = .ok (.ireturn, 1) := by decide +kernel
theorem dX12_set_60 : decode cX12_set 60 = .ok (.bipush 8, 2) := by decide +kernel
theorem dX12_set_62 : decode cX12_set 62 = .ok (.iconst 5, 1) := by decide +kernel
theorem dX12_set_63 : decode cX12_set 63 = .ok (.aload_n 0, 1) := by decide +kernel
theorem dX12_set_64 : decode cX12_set 64 = .ok (.getfield 7, 3) := by decide +kernel
theorem dX12_set_67 : decode cX12_set 67 = .ok (.iconst 0, 1) := by decide +kernel
theorem dX12_set_68 : decode cX12_set 68 = .ok (.iaload, 1) := by decide +kernel
theorem dX12_set_69 : decode cX12_set 69 = .ok (.imul, 1) := by decide +kernel
theorem dX12_set_70 : decode cX12_set 70 = .ok (.iadd, 1) := by decide +kernel
theorem dX12_set_71 : decode cX12_set 71 = .ok (.istore 5, 2) := by decide +kernel
theorem dX12_set_73 : decode cX12_set 73 = .ok (.aload_n 0, 1) := by decide +kernel
theorem dX12_set_74 : decode cX12_set 74 = .ok (.getfield 7, 3) := by decide +kernel
theorem dX12_set_77 : decode cX12_set 77 = .ok (.iload 5, 2) := by decide +kernel
theorem dX12_set_79 : decode cX12_set 79 = .ok (.iload_n 1, 1) := by decide +kernel
theorem dX12_set_80 : decode cX12_set 80 = .ok (.iastore, 1) := by decide +kernel
theorem dX12_set_81 : decode cX12_set 81 = .ok (.aload_n 0, 1) := by decide +kernel
theorem dX12_set_82 : decode cX12_set 82 = .ok (.getfield 7, 3) := by decide +kernel
theorem dX12_set_85 : decode cX12_set 85 = .ok (.iload 5, 2) := by decide +kernel
theorem dX12_set_87 : decode cX12_set 87 = .ok (.iconst 1, 1) := by decide +kernel
theorem dX12_set_88 : decode cX12_set 88 = .ok (.iadd, 1) := by decide +kernel
theorem dX12_set_89 : decode cX12_set 89 = .ok (.iload_n 2, 1) := by decide +kernel
theorem dX12_set_90 : decode cX12_set 90 = .ok (.iastore, 1) := by decide +kernel
theorem dX12_set_91 : decode cX12_set 91 = .ok (.aload_n 0, 1) := by decide +kernel
theorem dX12_set_92 : decode cX12_set 92 = .ok (.getfield 7, 3) := by decide +kernel
theorem dX12_set_95 : decode cX12_set 95 = .ok (.iload 5, 2) := by decide +kernel
theorem dX12_set_97 : decode cX12_set 97 = .ok (.iconst 2, 1) := by decide +kernel
theorem dX12_set_98 : decode cX12_set 98 = .ok (.iadd, 1) := by decide +kernel
theorem dX12_set_99 : decode cX12_set 99 = .ok (.iload_n 3, 1) := by decide +kernel
theorem dX12_set_100 : decode cX12_set 100 = .ok (.iastore, 1) := by decide +kernel
theorem dX12_set_101 : decode cX12_set 101 = .ok (.aload_n 0, 1) := by decide +kernel
theorem dX12_set_102 : decode cX12_set 102 = .ok (.getfield 7, 3) := by decide +kernel
theorem dX12_set_105 : decode cX12_set 105 = .ok (.iload 5, 2) := by decide +kernel
theorem dX12_set_107 : decode cX12_set 107 = .ok (.iconst 3, 1) := by decide +kernel
theorem dX12_set_108 : decode cX12_set 108 = .ok (.iadd, 1) := by decide +kernel
theorem dX12_set_109 : decode cX12_set 109 = .ok (.iload 4, 2) := by decide +kernel
theorem dX12_set_111 : decode cX12_set 111 = .ok (.iastore, 1) := by decide +kernel
theorem dX12_set_112 : decode cX12_set 112 = .ok (.aload_n 0, 1) := by decide +kernel
theorem dX12_set_113 : decode cX12_set 113 = .ok (.getfield 7, 3) := by decide +kernel
theorem dX12_set_116 : decode cX12_set 116 = .ok (.iload 5, 2) := by decide +kernel
theorem dX12_set_118 : decode cX12_set 118 = .ok (.iconst 4, 1) := by decide +kernel
theorem dX12_set_119 : decode cX12_set 119 = .ok (.iadd, 1) := by decide +kernel
theorem dX12_set_120 : decode cX12_set 120 = .ok (.iconst 3, 1) := by decide +kernel
theorem dX12_set_121 : decode cX12_set 121 = .ok (.iastore, 1) := by decide +kernel
theorem dX12_set_122 : decode cX12_set 122 = .ok (.aload_n 0, 1) := by decide +kernel
theorem dX12_set_123 : decode cX12_set 123 = .ok (.getfield 7, 3) := by decide +kernel
theorem dX12_set_126 : decode cX12_set 126 = .ok (.iconst 0, 1) := by decide +kernel
theorem dX12_set_127 : decode cX12_set 127 = .ok (.dup2, 1) := by decide +kernel
theorem dX12_set_128 : decode cX12_set 128 = .ok (.iaload, 1) := by decide +kernel
theorem dX12_set_129 : decode cX12_set 129 = .ok (.iconst 1, 1) := by decide +kernel
theorem dX12_set_130 : decode cX12_set 130 = .ok (.iadd, 1) := by decide +kernel
theorem dX12_set_131 : decode cX12_set 131 = .ok (.iastore, 1) := by decide +kernel
theorem dX12_set_132 : decode cX12_set 132 = .ok (.aload_n 0, 1) := by decide +kernel
theorem dX12_set_133 : decode cX12_set 133 = .ok (.getfield 7, 3) := by decide +kernel
theorem dX12_set_136 : decode cX12_set 136 = .ok (.iconst 0, 1) := by decide +kernel
theorem dX12_set_137 : decode cX12_set 137 = .ok (.iaload, 1) := by decide +kernel
theorem dX12_set_138 : decode cX12_set 138 = .ok (.iconst 1, 1) := by decide +kernel
theorem dX12_set_139 : decode cX12_set 139 = .ok (.isub, 1) := by decide +kernel
theorem dX12_set_140 : decode cX12_set 140 = .ok (.ireturn, 1) := by decide +kernel
theorem dX12_isTaken_0 : decode cX12_isTaken 0 = .ok (.aload_n 0, 1) := by decide +kernel
theorem dX12_isTaken_1 : decode cX12_isTaken 1 = .ok (.getfield 7, 3) := by decide +kernel
theorem dX12_isTaken_4 : decode cX12_isTaken 4 = .ok (.bipush 47, 2) := by decide +kernel
theorem dX12_isTaken_6 : decode cX12_isTaken 6 = .ok (.aload_n 0, 1) := by decide +kernel
theorem dX12_isTaken_7 : decode cX12_isTaken 7 = .ok (.iload_n 1, 1) := by decide +kernel
theorem dX12_isTaken_8 : decode cX12_isTaken 8 = .ok (.iconst 1, 1) := by decide +kernel
theorem dX12_isTaken_9 : decode cX12_isTaken 9 = .ok (.invokevirtual 69, 3) := by decide +kernel
theorem dX12_isTaken_12 : decode cX12_isTaken 12 = .ok (.iadd, 1) := by decide +kernel
theorem dX12_isTaken_13 : decode cX12_isTaken 13 = .ok (.iaload, 1) := by decide +kernel
theorem dX12_isTaken_14 : decode cX12_isTaken 14 = .ok (.iload_n 2, 1) := by decide +kernel
theorem dX12_isTaken_15 : decode cX12_isTaken 15 = .ok (.ishr, 1) := by decide +kernel
theorem dX12_isTaken_16 : decode cX12_isTaken 16 = .ok (.iconst 1, 1) := by decide +kernel
theorem dX12_isTaken_17 : decode cX12_isTaken 17 = .ok (.iand, 1) := by decide +kernel
theorem dX12_isTaken_18 : decode cX12_isTaken 18 = .ok (.iconst 1, 1) := by decide +kernel
theorem dX12_isTaken_19 : decode cX12_isTaken 19 = .ok (.if_icmp .ne 7, 3) := by decide +kernel
theorem dX12_isTaken_22 : decode cX12_isTaken 22 = .ok (.iconst 1, 1) := by decide +kernel
theorem dX12_isTaken_23 : decode cX12_isTaken 23 = .ok (.goto 4, 3) := by decide +kernel
theorem dX12_isTaken_26 : decode cX12_isTaken 26 = .ok (.iconst 0, 1) := by decide +kernel
theorem dX12_isTaken_27 : decode cX12_isTaken 27 = .ok (.ireturn, 1) := by decide +kernel
theorem dX12_may_0 : decode cX12_may 0 = .ok (.aload_n 0, 1) := by decide +kernel
theorem dX12_may_1 : decode cX12_may 1 = .ok (.iload_n 1, 1) := by decide +kernel
theorem dX12_may_2 : decode cX12_may 2 = .ok (.iconst 0, 1) := by decide +kernel
theorem dX12_may_3 : decode cX12_may 3 = .ok (.invokevirtual 69, 3) := by decide +kernel
theorem dX12_may_6 : decode cX12_may 6 = .ok (.tableswitch 103 1 4 #[30, 49, 71, 73], 30) := by decide +kernel
theorem dX12_may_36 : decode cX12_may 36 = .ok (.iload_n 2, 1) := by decide +kernel
theorem dX12_may_37 : decode cX12_may 37 = .ok (.ifCond .le 16, 3) := by decide +kernel
theorem dX12_may_40 : decode cX12_may 40 = .ok (.aload_n 0, 1) := by decide +kernel
theorem dX12_may_41 : decode cX12_may 41 = .ok (.iload_n 1, 1) := by decide +kernel
theorem dX12_may_42 : decode cX12_may 42 = .ok (.iload_n 2, 1) := by decide +kernel
theorem dX12_may_43 : decode cX12_may 43 = .ok (.invokevirtual 73, 3) := by decide +kernel
theorem dX12_may_46 : decode cX12_may 46 = .ok (.ifCond .ne 7, 3) := by decide +kernel
theorem dX12_may_49 : decode cX12_may 49 = .ok (.iconst 1, 1) := by decide +kernel
theorem dX12_may_50 : decode cX12_may 50 = .ok (.goto 4, 3) := by decide +kernel
theorem dX12_may_53 : decode cX12_may 53 = .ok (.iconst 0, 1) := by decide +kernel
theorem dX12_may_54 : decode cX12_may 54 = .ok (.ireturn, 1) := by decide +kernel
theorem dX12_may_55 : decode cX12_may 55 = .ok (.iload_n 2, 1) := by decide +kernel
theorem dX12_may_56 : decode cX12_may 56 = .ok (.iconst 2, 1) := by decide +kernel
theorem dX12_may_57 : decode cX12_may 57 = .ok (.irem, 1) := by decide +kernel
theorem dX12_may_58 : decode cX12_may 58 = .ok (.iconst 1, 1) := by decide +kernel
theorem dX12_may_59 : decode cX12_may 59 = .ok (.if_icmp .eq 12, 3) := by decide +kernel
theorem dX12_may_62 : decode cX12_may 62 = .ok (.aload_n 0, 1) := by decide +kernel
theorem dX12_may_63 : decode cX12_may 63 = .ok (.iload_n 1, 1) := by decide +kernel
theorem dX12_may_64 : decode cX12_may 64 = .ok (.iload_n 2, 1) := by decide +kernel
theorem dX12_may_65 : decode cX12_may 65 = .ok (.invokevirtual 73, 3) := by decide +kernel
theorem dX12_may_68 : decode cX12_may 68 = .ok (.ifCond .ne 7, 3) := by decide +kernel
theorem dX12_may_71 : decode cX12_may 71 = .ok (.iconst 1, 1) := by decide +kernel
theorem dX12_may_72 : decode cX12_may 72 = .ok (.goto 4, 3) := by decide +kernel
theorem dX12_may_75 : decode cX12_may 75 = .ok (.iconst 0, 1) := by decide +kernel
theorem dX12_may_76 : decode cX12_may 76 = .ok (.ireturn, 1) := by decide +kernel
theorem dX12_may_77 : decode cX12_may 77 = .ok (.iconst 1, 1) := by decide +kernel
theorem dX12_may_78 : decode cX12_may 78 = .ok (.ireturn, 1) := by decide +kernel
theorem dX12_may_79 : decode cX12_may 79 = .ok (.aload_n 0, 1) := by decide +kernel
theorem dX12_may_80 : decode cX12_may 80 = .ok (.iload_n 1, 1) := by decide +kernel
theorem dX12_may_81 : decode cX12_may 81 = .ok (.iload_n 2, 1) := by decide +kernel
theorem dX12_may_82 : decode cX12_may 82 = .ok (.invokevirtual 73, 3) := by decide +kernel
theorem dX12_may_85 : decode cX12_may 85 = .ok (.ifCond .eq 18, 3) := by decide +kernel
theorem dX12_may_88 : decode cX12_may 88 = .ok (.iload_n 2, 1) := by decide +kernel
theorem dX12_may_89 : decode cX12_may 89 = .ok (.ifCond .le 18, 3) := by decide +kernel
theorem dX12_may_92 : decode cX12_may 92 = .ok (.aload_n 0, 1) := by decide +kernel
theorem dX12_may_93 : decode cX12_may 93 = .ok (.iload_n 1, 1) := by decide +kernel
theorem dX12_may_94 : decode cX12_may 94 = .ok (.iload_n 2, 1) := by decide +kernel
theorem dX12_may_95 : decode cX12_may 95 = .ok (.iconst 1, 1) := by decide +kernel
theorem dX12_may_96 : decode cX12_may 96 = .ok (.isub, 1) := by decide +kernel
theorem dX12_may_97 : decode cX12_may 97 = .ok (.invokevirtual 73, 3) := by decide +kernel
theorem dX12_may_100 : decode cX12_may 100 = .ok (.ifCond .ne 7, 3) := by decide +kernel
theorem dX12_may_103 : decode cX12_may 103 = .ok (.iconst 1, 1) := by decide +kernel
theorem dX12_may_104 : decode cX12_may 104 = .ok (.goto 4, 3) := by decide +kernel
theorem dX12_may_107 : decode cX12_may 107 = .ok (.iconst 0, 1) := by decide +kernel
theorem dX12_may_108 : decode cX12_may 108 = .ok (.ireturn, 1) := by decide +kernel
theorem dX12_may_109 : decode cX12_may 109 = .ok (.aload_n 0, 1) := by decide +kernel
theorem dX12_may_110 : decode cX12_may 110 = .ok (.iload_n 1, 1) := by decide +kernel
theorem dX12_may_111 : decode cX12_may 111 = .ok (.iload_n 2, 1) := by decide +kernel
theorem dX12_may_112 : decode cX12_may 112 = .ok (.invokevirtual 73, 3) := by decide +kernel
theorem dX12_may_115 : decode cX12_may 115 = .ok (.ireturn, 1) := by decide +kernel
theorem dX12_gains_0 : decode cX12_gains 0 = .ok (.aload_n 0, 1) := by decide +kernel
theorem dX12_gains_1 : decode cX12_gains 1 = .ok (.iload_n 1, 1) := by decide +kernel
theorem dX12_gains_2 : decode cX12_gains 2 = .ok (.iconst 2, 1) := by decide +kernel
theorem dX12_gains_3 : decode cX12_gains 3 = .ok (.invokevirtual 69, 3) := by decide +kernel
theorem dX12_gains_6 : decode cX12_gains 6 = .ok (.istore_n 2, 1) := by decide +kernel
theorem dX12_gains_7 : decode cX12_gains 7 = .ok (.aload_n 0, 1) := by decide +kernel
theorem dX12_gains_8 : decode cX12_gains 8 = .ok (.iload_n 1, 1) := by decide +kernel
theorem dX12_gains_9 : decode cX12_gains 9 = .ok (.iconst 0, 1) := by decide +kernel
theorem dX12_gains_10 : decode cX12_gains 10 = .ok (.invokevirtual 69, 3) := by decide +kernel
theorem dX12_gains_13 : decode cX12_gains 13 = .ok (.tableswitch 68 1 5 #[35, 39, 43, 68, 64], 35) := by decide +kernel
theorem dX12_gains_48 : decode cX12_gains 48 = .ok (.iload_n 2, 1) := by decide +kernel
theorem dX12_gains_49 : decode cX12_gains 49 = .ok (.iconst 2, 1) := by decide +kernel
theorem dX12_gains_50 : decode cX12_gains 50 = .ok (.iadd, 1) := by decide +kernel
theorem dX12_gains_51 : decode cX12_gains 51 = .ok (.ireturn, 1) := by decide +kernel
theorem dX12_gains_52 : decode cX12_gains 52 = .ok (.iload_n 2, 1) := by decide +kernel
theorem dX12_gains_53 : decode cX12_gains 53 = .ok (.iconst 1, 1) := by decide +kernel
theorem dX12_gains_54 : decode cX12_gains 54 = .ok (.isub, 1) := by decide +kernel
theorem dX12_gains_55 : decode cX12_gains 55 = .ok (.ireturn, 1) := by decide +kernel
theorem dX12_gains_56 : decode cX12_gains 56 = .ok (.aload_n 0, 1) := by decide +kernel
theorem dX12_gains_57 : decode cX12_gains 57 = .ok (.getfield 7, 3) := by decide +kernel
theorem dX12_gains_60 : decode cX12_gains 60 = .ok (.iconst 1, 1) := by decide +kernel
theorem dX12_gains_61 : decode cX12_gains 61 = .ok (.iaload, 1) := by decide +kernel
theorem dX12_gains_62 : decode cX12_gains 62 = .ok (.iconst 2, 1) := by decide +kernel
theorem dX12_gains_63 : decode cX12_gains 63 = .ok (.irem, 1) := by decide +kernel
theorem dX12_gains_64 : decode cX12_gains 64 = .ok (.ifCond .ne 9, 3) := by decide +kernel
theorem dX12_gains_67 : decode cX12_gains 67 = .ok (.iload_n 2, 1) := by decide +kernel
theorem dX12_gains_68 : decode cX12_gains 68 = .ok (.iconst 2, 1) := by decide +kernel
theorem dX12_gains_69 : decode cX12_gains 69 = .ok (.iadd, 1) := by decide +kernel
theorem dX12_gains_70 : decode cX12_gains 70 = .ok (.goto 6, 3) := by decide +kernel
theorem dX12_gains_73 : decode cX12_gains 73 = .ok (.iload_n 2, 1) := by decide +kernel
theorem dX12_gains_74 : decode cX12_gains 74 = .ok (.iconst 1, 1) := by decide +kernel
theorem dX12_gains_75 : decode cX12_gains 75 = .ok (.isub, 1) := by decide +kernel
theorem dX12_gains_76 : decode cX12_gains 76 = .ok (.ireturn, 1) := by decide +kernel
theorem dX12_gains_77 : decode cX12_gains 77 = .ok (.iconst 2, 1) := by decide +kernel
theorem dX12_gains_78 : decode cX12_gains 78 = .ok (.iload_n 2, 1) := by decide +kernel
theorem dX12_gains_79 : decode cX12_gains 79 = .ok (.imul, 1) := by decide +kernel
theorem dX12_gains_80 : decode cX12_gains 80 = .ok (.ireturn, 1) := by decide +kernel
theorem dX12_gains_81 : decode cX12_gains 81 = .ok (.iload_n 2, 1) := by decide +kernel
theorem dX12_gains_82 : decode cX12_gains 82 = .ok (.ireturn, 1) := by decide +kernel
theorem dX12_tires_0 : decode cX12_tires 0 = .ok (.aload_n 0, 1) := by decide +kernel
theorem dX12_tires_1 : decode cX12_tires 1 = .ok (.iload_n 1, 1) := by decide +kernel
theorem dX12_tires_2 : decode cX12_tires 2 = .ok (.iconst 0, 1) := by decide +kernel
theorem dX12_tires_3 : decode cX12_tires 3 = .ok (.invokevirtual 69, 3) := by decide +kernel
theorem dX12_tires_6 : decode cX12_tires 6 = .ok (.tableswitch 38 1 5 #[34, 38, 38, 36, 34], 34) := by decide +kernel
theorem dX12_tires_40 : decode cX12_tires 40 = .ok (.iconst 3, 1) := by decide +kernel
theorem dX12_tires_41 : decode cX12_tires 41 = .ok (.ireturn, 1) := by decide +kernel
theorem dX12_tires_42 : decode cX12_tires 42 = .ok (.iconst 2, 1) := by decide +kernel
theorem dX12_tires_43 : decode cX12_tires 43 = .ok (.ireturn, 1) := by decide +kernel
theorem dX12_tires_44 : decode cX12_tires 44 = .ok (.iconst 1, 1) := by decide +kernel
theorem dX12_tires_45 : decode cX12_tires 45 = .ok (.ireturn, 1) := by decide +kernel
theorem dX12_isUnder_0 : decode cX12_isUnder 0 = .ok (.iload_n 1, 1) := by decide +kernel
theorem dX12_isUnder_1 : decode cX12_isUnder 1 = .ok (.ifCond .eq 28, 3) := by decide +kernel
theorem dX12_isUnder_4 : decode cX12_isUnder 4 = .ok (.iload_n 0, 1) := by decide +kernel
theorem dX12_isUnder_5 : decode cX12_isUnder 5 = .ok (.iload_n 1, 1) := by decide +kernel
theorem dX12_isUnder_6 : decode cX12_isUnder 6 = .ok (.if_icmp .eq 23, 3) := by decide +kernel
theorem dX12_isUnder_9 : decode cX12_isUnder 9 = .ok (.iload_n 1, 1) := by decide +kernel
theorem dX12_isUnder_10 : decode cX12_isUnder 10 = .ok (.iconst 2, 1) := by decide +kernel
theorem dX12_isUnder_11 : decode cX12_isUnder 11 = .ok (.if_icmp .ne 8, 3) := by decide +kernel
theorem dX12_isUnder_14 : decode cX12_isUnder 14 = .ok (.iload_n 0, 1) := by decide +kernel
theorem dX12_isUnder_15 : decode cX12_isUnder 15 = .ok (.iconst 3, 1) := by decide +kernel
theorem dX12_isUnder_16 : decode cX12_isUnder 16 = .ok (.if_icmp .eq 13, 3) := by decide +kernel
theorem dX12_isUnder_19 : decode cX12_isUnder 19 = .ok (.iload_n 1, 1) := by decide +kernel
theorem dX12_isUnder_20 : decode cX12_isUnder 20 = .ok (.iconst 4, 1) := by decide +kernel
theorem dX12_isUnder_21 : decode cX12_isUnder 21 = .ok (.if_icmp .ne 12, 3) := by decide +kernel
theorem dX12_isUnder_24 : decode cX12_isUnder 24 = .ok (.iload_n 0, 1) := by decide +kernel
theorem dX12_isUnder_25 : decode cX12_isUnder 25 = .ok (.iconst 5, 1) := by decide +kernel
theorem dX12_isUnder_26 : decode cX12_isUnder 26 = .ok (.if_icmp .ne 7, 3) := by decide +kernel
theorem dX12_isUnder_29 : decode cX12_isUnder 29 = .ok (.iconst 1, 1) := by decide +kernel
theorem dX12_isUnder_30 : decode cX12_isUnder 30 = .ok (.goto 4, 3) := by decide +kernel
theorem dX12_isUnder_33 : decode cX12_isUnder 33 = .ok (.iconst 0, 1) := by decide +kernel
theorem dX12_isUnder_34 : decode cX12_isUnder 34 = .ok (.ireturn, 1) := by decide +kernel
theorem dX12_valueOf_0 : decode cX12_valueOf 0 = .ok (.iload_n 1, 1) := by decide +kernel
theorem dX12_valueOf_1 : decode cX12_valueOf 1 = .ok (.sipush 10000, 3) := by decide +kernel
theorem dX12_valueOf_4 : decode cX12_valueOf 4 = .ok (.isub, 1) := by decide +kernel
theorem dX12_valueOf_5 : decode cX12_valueOf 5 = .ok (.tableswitch 73 0 4 #[35, 42, 49, 64, 71], 35) := by decide +kernel
theorem dX12_valueOf_40 : decode cX12_valueOf 40 = .ok (.aload_n 0, 1) := by decide +kernel
theorem dX12_valueOf_41 : decode cX12_valueOf 41 = .ok (.getfield 7, 3) := by decide +kernel
theorem dX12_valueOf_44 : decode cX12_valueOf 44 = .ok (.iconst 1, 1) := by decide +kernel
theorem dX12_valueOf_45 : decode cX12_valueOf 45 = .ok (.iaload, 1) := by decide +kernel
theorem dX12_valueOf_46 : decode cX12_valueOf 46 = .ok (.ireturn, 1) := by decide +kernel
theorem dX12_valueOf_47 : decode cX12_valueOf 47 = .ok (.aload_n 0, 1) := by decide +kernel
theorem dX12_valueOf_48 : decode cX12_valueOf 48 = .ok (.iload_n 2, 1) := by decide +kernel
theorem dX12_valueOf_49 : decode cX12_valueOf 49 = .ok (.iconst 2, 1) := by decide +kernel
theorem dX12_valueOf_50 : decode cX12_valueOf 50 = .ok (.invokevirtual 69, 3) := by decide +kernel
theorem dX12_valueOf_53 : decode cX12_valueOf 53 = .ok (.ireturn, 1) := by decide +kernel
theorem dX12_valueOf_54 : decode cX12_valueOf 54 = .ok (.aload_n 0, 1) := by decide +kernel
theorem dX12_valueOf_55 : decode cX12_valueOf 55 = .ok (.getfield 7, 3) := by decide +kernel
theorem dX12_valueOf_58 : decode cX12_valueOf 58 = .ok (.bipush 38, 2) := by decide +kernel
theorem dX12_valueOf_60 : decode cX12_valueOf 60 = .ok (.aload_n 0, 1) := by decide +kernel
theorem dX12_valueOf_61 : decode cX12_valueOf 61 = .ok (.iload_n 2, 1) := by decide +kernel
theorem dX12_valueOf_62 : decode cX12_valueOf 62 = .ok (.iconst 3, 1) := by decide +kernel
theorem dX12_valueOf_63 : decode cX12_valueOf 63 = .ok (.invokevirtual 69, 3) := by decide +kernel
theorem dX12_valueOf_66 : decode cX12_valueOf 66 = .ok (.iadd, 1) := by decide +kernel
theorem dX12_valueOf_67 : decode cX12_valueOf 67 = .ok (.iaload, 1) := by decide +kernel
theorem dX12_valueOf_68 : decode cX12_valueOf 68 = .ok (.ireturn, 1) := by decide +kernel
theorem dX12_valueOf_69 : decode cX12_valueOf 69 = .ok (.aload_n 0, 1) := by decide +kernel
theorem dX12_valueOf_70 : decode cX12_valueOf 70 = .ok (.iload_n 2, 1) := by decide +kernel
theorem dX12_valueOf_71 : decode cX12_valueOf 71 = .ok (.iconst 4, 1) := by decide +kernel
theorem dX12_valueOf_72 : decode cX12_valueOf 72 = .ok (.invokevirtual 69, 3) := by decide +kernel
theorem dX12_valueOf_75 : decode cX12_valueOf 75 = .ok (.ireturn, 1) := by decide +kernel
theorem dX12_valueOf_76 : decode cX12_valueOf 76 = .ok (.iload_n 2, 1) := by decide +kernel
theorem dX12_valueOf_77 : decode cX12_valueOf 77 = .ok (.ireturn, 1) := by decide +kernel
theorem dX12_valueOf_78 : decode cX12_valueOf 78 = .ok (.iload_n 1, 1) := by decide +kernel
theorem dX12_valueOf_79 : decode cX12_valueOf 79 = .ok (.ireturn, 1) := by decide +kernel
theorem dX12_holds_0 : decode cX12_holds 0 = .ok (.lconst 1, 1) := by decide +kernel
theorem dX12_holds_1 : decode cX12_holds 1 = .ok (.lstore_n 3, 1) := by decide +kernel
theorem dX12_holds_2 : decode cX12_holds 2 = .ok (.aload_n 0, 1) := by decide +kernel
theorem dX12_holds_3 : decode cX12_holds 3 = .ok (.getfield 7, 3) := by decide +kernel
theorem dX12_holds_6 : decode cX12_holds 6 = .ok (.bipush 53, 2) := by decide +kernel
theorem dX12_holds_8 : decode cX12_holds 8 = .ok (.iconst 4, 1) := by decide +kernel
theorem dX12_holds_9 : decode cX12_holds 9 = .ok (.iload_n 1, 1) := by decide +kernel
theorem dX12_holds_10 : decode cX12_holds 10 = .ok (.imul, 1) := by decide +kernel
theorem dX12_holds_11 : decode cX12_holds 11 = .ok (.iadd, 1) := by decide +kernel
theorem dX12_holds_12 : decode cX12_holds 12 = .ok (.iconst 2, 1) := by decide +kernel
theorem dX12_holds_13 : decode cX12_holds 13 = .ok (.iadd, 1) := by decide +kernel
theorem dX12_holds_14 : decode cX12_holds 14 = .ok (.iaload, 1) := by decide +kernel
theorem dX12_holds_15 : decode cX12_holds 15 = .ok (.istore 5, 2) := by decide +kernel
theorem dX12_holds_17 : decode cX12_holds 17 = .ok (.iload 5, 2) := by decide +kernel
theorem dX12_holds_19 : decode cX12_holds 19 = .ok (.aload_n 0, 1) := by decide +kernel
theorem dX12_holds_20 : decode cX12_holds 20 = .ok (.getfield 7, 3) := by decide +kernel
theorem dX12_holds_23 : decode cX12_holds 23 = .ok (.bipush 53, 2) := by decide +kernel
theorem dX12_holds_25 : decode cX12_holds 25 = .ok (.iconst 4, 1) := by decide +kernel
theorem dX12_holds_26 : decode cX12_holds 26 = .ok (.iload_n 1, 1) := by decide +kernel
theorem dX12_holds_27 : decode cX12_holds 27 = .ok (.imul, 1) := by decide +kernel
theorem dX12_holds_28 : decode cX12_holds 28 = .ok (.iadd, 1) := by decide +kernel
theorem dX12_holds_29 : decode cX12_holds 29 = .ok (.iconst 3, 1) := by decide +kernel
theorem dX12_holds_30 : decode cX12_holds 30 = .ok (.iadd, 1) := by decide +kernel
theorem dX12_holds_31 : decode cX12_holds 31 = .ok (.iaload, 1) := by decide +kernel
theorem dX12_holds_32 : decode cX12_holds 32 = .ok (.if_icmp .ge 200, 3) := by decide +kernel
theorem dX12_holds_35 : decode cX12_holds 35 = .ok (.aload_n 0, 1) := by decide +kernel
theorem dX12_holds_36 : decode cX12_holds 36 = .ok (.getfield 7, 3) := by decide +kernel
theorem dX12_holds_39 : decode cX12_holds 39 = .ok (.bipush 103, 2) := by decide +kernel
theorem dX12_holds_41 : decode cX12_holds 41 = .ok (.iconst 3, 1) := by decide +kernel
theorem dX12_holds_42 : decode cX12_holds 42 = .ok (.iload 5, 2) := by decide +kernel
theorem dX12_holds_44 : decode cX12_holds 44 = .ok (.imul, 1) := by decide +kernel
theorem dX12_holds_45 : decode cX12_holds 45 = .ok (.iadd, 1) := by decide +kernel
theorem dX12_holds_46 : decode cX12_holds 46 = .ok (.iaload, 1) := by decide +kernel
theorem dX12_holds_47 : decode cX12_holds 47 = .ok (.istore 6, 2) := by decide +kernel
theorem dX12_holds_49 : decode cX12_holds 49 = .ok (.iload 6, 2) := by decide +kernel
theorem dX12_holds_51 : decode cX12_holds 51 = .ok (.iconst 3, 1) := by decide +kernel
theorem dX12_holds_52 : decode cX12_holds 52 = .ok (.if_icmp .ge 120, 3) := by decide +kernel
theorem dX12_holds_55 : decode cX12_holds 55 = .ok (.aload_n 0, 1) := by decide +kernel
theorem dX12_holds_56 : decode cX12_holds 56 = .ok (.aload_n 0, 1) := by decide +kernel
theorem dX12_holds_57 : decode cX12_holds 57 = .ok (.getfield 7, 3) := by decide +kernel
theorem dX12_holds_60 : decode cX12_holds 60 = .ok (.bipush 103, 2) := by decide +kernel
theorem dX12_holds_62 : decode cX12_holds 62 = .ok (.iconst 3, 1) := by decide +kernel
theorem dX12_holds_63 : decode cX12_holds 63 = .ok (.iload 5, 2) := by decide +kernel
theorem dX12_holds_65 : decode cX12_holds 65 = .ok (.imul, 1) := by decide +kernel
theorem dX12_holds_66 : decode cX12_holds 66 = .ok (.iadd, 1) := by decide +kernel
theorem dX12_holds_67 : decode cX12_holds 67 = .ok (.iconst 1, 1) := by decide +kernel
theorem dX12_holds_68 : decode cX12_holds 68 = .ok (.iadd, 1) := by decide +kernel
theorem dX12_holds_69 : decode cX12_holds 69 = .ok (.iaload, 1) := by decide +kernel
theorem dX12_holds_70 : decode cX12_holds 70 = .ok (.iload_n 2, 1) := by decide +kernel
theorem dX12_holds_71 : decode cX12_holds 71 = .ok (.invokevirtual 77, 3) := by decide +kernel
theorem dX12_holds_74 : decode cX12_holds 74 = .ok (.istore 7, 2) := by decide +kernel
theorem dX12_holds_76 : decode cX12_holds 76 = .ok (.aload_n 0, 1) := by decide +kernel
theorem dX12_holds_77 : decode cX12_holds 77 = .ok (.aload_n 0, 1) := by decide +kernel
theorem dX12_holds_78 : decode cX12_holds 78 = .ok (.getfield 7, 3) := by decide +kernel
theorem dX12_holds_81 : decode cX12_holds 81 = .ok (.bipush 103, 2) := by decide +kernel
theorem dX12_holds_83 : decode cX12_holds 83 = .ok (.iconst 3, 1) := by decide +kernel
theorem dX12_holds_84 : decode cX12_holds 84 = .ok (.iload 5, 2) := by decide +kernel
theorem dX12_holds_86 : decode cX12_holds 86 = .ok (.imul, 1) := by decide +kernel
theorem dX12_holds_87 : decode cX12_holds 87 = .ok (.iadd, 1) := by decide +kernel
theorem dX12_holds_88 : decode cX12_holds 88 = .ok (.iconst 2, 1) := by decide +kernel
theorem dX12_holds_89 : decode cX12_holds 89 = .ok (.iadd, 1) := by decide +kernel
theorem dX12_holds_90 : decode cX12_holds 90 = .ok (.iaload, 1) := by decide +kernel
theorem dX12_holds_91 : decode cX12_holds 91 = .ok (.iload_n 2, 1) := by decide +kernel
theorem dX12_holds_92 : decode cX12_holds 92 = .ok (.invokevirtual 77, 3) := by decide +kernel
theorem dX12_holds_95 : decode cX12_holds 95 = .ok (.istore 8, 2) := by decide +kernel
theorem dX12_holds_97 : decode cX12_holds 97 = .ok (.iload 6, 2) := by decide +kernel
theorem dX12_holds_99 : decode cX12_holds 99 = .ok (.ifCond .ne 18, 3) := by decide +kernel
theorem dX12_holds_102 : decode cX12_holds 102 = .ok (.iload 7, 2) := by decide +kernel
theorem dX12_holds_104 : decode cX12_holds 104 = .ok (.iload 8, 2) := by decide +kernel
theorem dX12_holds_106 : decode cX12_holds 106 = .ok (.if_icmp .ge 7, 3) := by decide +kernel
theorem dX12_holds_109 : decode cX12_holds 109 = .ok (.iconst 1, 1) := by decide +kernel
theorem dX12_holds_110 : decode cX12_holds 110 = .ok (.goto 40, 3) := by decide +kernel
theorem dX12_holds_113 : decode cX12_holds 113 = .ok (.iconst 0, 1) := by decide +kernel
theorem dX12_holds_114 : decode cX12_holds 114 = .ok (.goto 36, 3) := by decide +kernel
theorem dX12_holds_117 : decode cX12_holds 117 = .ok (.iload 6, 2) := by decide +kernel
theorem dX12_holds_119 : decode cX12_holds 119 = .ok (.iconst 1, 1) := by decide +kernel
theorem dX12_holds_120 : decode cX12_holds 120 = .ok (.if_icmp .ne 18, 3) := by decide +kernel
theorem dX12_holds_123 : decode cX12_holds 123 = .ok (.iload 7, 2) := by decide +kernel
theorem dX12_holds_125 : decode cX12_holds 125 = .ok (.iload 8, 2) := by decide +kernel
theorem dX12_holds_127 : decode cX12_holds 127 = .ok (.if_icmp .ne 7, 3) := by decide +kernel
theorem dX12_holds_130 : decode cX12_holds 130 = .ok (.iconst 1, 1) := by decide +kernel
theorem dX12_holds_131 : decode cX12_holds 131 = .ok (.goto 19, 3) := by decide +kernel
theorem dX12_holds_134 : decode cX12_holds 134 = .ok (.iconst 0, 1) := by decide +kernel
theorem dX12_holds_135 : decode cX12_holds 135 = .ok (.goto 15, 3) := by decide +kernel
theorem dX12_holds_138 : decode cX12_holds 138 = .ok (.iload 7, 2) := by decide +kernel
theorem dX12_holds_140 : decode cX12_holds 140 = .ok (.iload 8, 2) := by decide +kernel
theorem dX12_holds_142 : decode cX12_holds 142 = .ok (.if_icmp .le 7, 3) := by decide +kernel
theorem dX12_holds_145 : decode cX12_holds 145 = .ok (.iconst 1, 1) := by decide +kernel
theorem dX12_holds_146 : decode cX12_holds 146 = .ok (.goto 4, 3) := by decide +kernel
theorem dX12_holds_149 : decode cX12_holds 149 = .ok (.iconst 0, 1) := by decide +kernel
theorem dX12_holds_150 : decode cX12_holds 150 = .ok (.istore 9, 2) := by decide +kernel
theorem dX12_holds_152 : decode cX12_holds 152 = .ok (.ldc2_w 67, 3) := by decide +kernel
theorem dX12_holds_155 : decode cX12_holds 155 = .ok (.lload_n 3, 1) := by decide +kernel
theorem dX12_holds_156 : decode cX12_holds 156 = .ok (.lmul, 1) := by decide +kernel
theorem dX12_holds_157 : decode cX12_holds 157 = .ok (.iload 9, 2) := by decide +kernel
theorem dX12_holds_159 : decode cX12_holds 159 = .ok (.ifCond .eq 7, 3) := by decide +kernel
theorem dX12_holds_162 : decode cX12_holds 162 = .ok (.lconst 1, 1) := by decide +kernel
theorem dX12_holds_163 : decode cX12_holds 163 = .ok (.goto 4, 3) := by decide +kernel
