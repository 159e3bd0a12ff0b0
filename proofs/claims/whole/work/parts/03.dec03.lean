theorem dX12_ahead_108 : decode cX12_ahead 108 = .ok (.aload 5, 2) := by decide +kernel
theorem dX12_ahead_110 : decode cX12_ahead 110 = .ok (.getfield 137, 3) := by decide +kernel
theorem dX12_ahead_113 : decode cX12_ahead 113 = .ok (.iload_n 1, 1) := by decide +kernel
theorem dX12_ahead_114 : decode cX12_ahead 114 = .ok (.iaload, 1) := by decide +kernel
theorem dX12_ahead_115 : decode cX12_ahead 115 = .ok (.ireturn, 1) := by decide +kernel
theorem dX12_ahead_116 : decode cX12_ahead 116 = .ok (.aload 5, 2) := by decide +kernel
theorem dX12_ahead_118 : decode cX12_ahead 118 = .ok (.getfield 155, 3) := by decide +kernel
theorem dX12_ahead_121 : decode cX12_ahead 121 = .ok (.iload_n 1, 1) := by decide +kernel
theorem dX12_ahead_122 : decode cX12_ahead 122 = .ok (.iaload, 1) := by decide +kernel
theorem dX12_ahead_123 : decode cX12_ahead 123 = .ok (.ireturn, 1) := by decide +kernel
theorem dX12_ahead_124 : decode cX12_ahead 124 = .ok (.aload 5, 2) := by decide +kernel
theorem dX12_ahead_126 : decode cX12_ahead 126 = .ok (.getfield 219, 3) := by decide +kernel
theorem dX12_ahead_129 : decode cX12_ahead 129 = .ok (.ireturn, 1) := by decide +kernel
theorem dX12_ahead_130 : decode cX12_ahead 130 = .ok (.aload 5, 2) := by decide +kernel
theorem dX12_ahead_132 : decode cX12_ahead 132 = .ok (.getfield 222, 3) := by decide +kernel
theorem dX12_ahead_135 : decode cX12_ahead 135 = .ok (.ireturn, 1) := by decide +kernel
theorem dX12_mayor_0 : decode cX12_mayor 0 = .ok (.aload_n 0, 1) := by decide +kernel
theorem dX12_mayor_1 : decode cX12_mayor 1 = .ok (.iload_n 1, 1) := by decide +kernel
theorem dX12_mayor_2 : decode cX12_mayor 2 = .ok (.invokevirtual 110, 3) := by decide +kernel
theorem dX12_mayor_5 : decode cX12_mayor 5 = .ok (.ifCond .ne 5, 3) := by decide +kernel
theorem dX12_mayor_8 : decode cX12_mayor 8 = .ok (.iconst (-1), 1) := by decide +kernel
theorem dX12_mayor_9 : decode cX12_mayor 9 = .ok (.ireturn, 1) := by decide +kernel
theorem dX12_mayor_10 : decode cX12_mayor 10 = .ok (.aload_n 0, 1) := by decide +kernel
theorem dX12_mayor_11 : decode cX12_mayor 11 = .ok (.invokevirtual 191, 3) := by decide +kernel
theorem dX12_mayor_14 : decode cX12_mayor 14 = .ok (.aload_n 0, 1) := by decide +kernel
theorem dX12_mayor_15 : decode cX12_mayor 15 = .ok (.getfield 70, 3) := by decide +kernel
theorem dX12_mayor_18 : decode cX12_mayor 18 = .ok (.iload_n 1, 1) := by decide +kernel
theorem dX12_mayor_19 : decode cX12_mayor 19 = .ok (.invokevirtual 225, 3) := by decide +kernel
theorem dX12_mayor_22 : decode cX12_mayor 22 = .ok (.ireturn, 1) := by decide +kernel
theorem dX12_pitch_0 : decode cX12_pitch 0 = .ok (.aload_n 0, 1) := by decide +kernel
theorem dX12_pitch_1 : decode cX12_pitch 1 = .ok (.iload_n 1, 1) := by decide +kernel
theorem dX12_pitch_2 : decode cX12_pitch 2 = .ok (.invokevirtual 110, 3) := by decide +kernel
theorem dX12_pitch_5 : decode cX12_pitch 5 = .ok (.ifCond .eq 22, 3) := by decide +kernel
theorem dX12_pitch_8 : decode cX12_pitch 8 = .ok (.iload_n 2, 1) := by decide +kernel
theorem dX12_pitch_9 : decode cX12_pitch 9 = .ok (.iconst 1, 1) := by decide +kernel
theorem dX12_pitch_10 : decode cX12_pitch 10 = .ok (.bipush 60, 2) := by decide +kernel
theorem dX12_pitch_12 : decode cX12_pitch 12 = .ok (.invokestatic 198, 3) := by decide +kernel
theorem dX12_pitch_15 : decode cX12_pitch 15 = .ok (.ifCond .eq 12, 3) := by decide +kernel
theorem dX12_pitch_18 : decode cX12_pitch 18 = .ok (.iload_n 3, 1) := by decide +kernel
theorem dX12_pitch_19 : decode cX12_pitch 19 = .ok (.iconst 0, 1) := by decide +kernel
theorem dX12_pitch_20 : decode cX12_pitch 20 = .ok (.iconst 1, 1) := by decide +kernel
theorem dX12_pitch_21 : decode cX12_pitch 21 = .ok (.invokestatic 198, 3) := by decide +kernel
theorem dX12_pitch_24 : decode cX12_pitch 24 = .ok (.ifCond .ne 5, 3) := by decide +kernel
theorem dX12_pitch_27 : decode cX12_pitch 27 = .ok (.iconst (-1), 1) := by decide +kernel
theorem dX12_pitch_28 : decode cX12_pitch 28 = .ok (.ireturn, 1) := by decide +kernel
theorem dX12_pitch_29 : decode cX12_pitch 29 = .ok (.aload_n 0, 1) := by decide +kernel
theorem dX12_pitch_30 : decode cX12_pitch 30 = .ok (.invokevirtual 191, 3) := by decide +kernel
theorem dX12_pitch_33 : decode cX12_pitch 33 = .ok (.aload_n 0, 1) := by decide +kernel
theorem dX12_pitch_34 : decode cX12_pitch 34 = .ok (.getfield 70, 3) := by decide +kernel
theorem dX12_pitch_37 : decode cX12_pitch 37 = .ok (.iload_n 1, 1) := by decide +kernel
theorem dX12_pitch_38 : decode cX12_pitch 38 = .ok (.iload_n 2, 1) := by decide +kernel
theorem dX12_pitch_39 : decode cX12_pitch 39 = .ok (.iload_n 3, 1) := by decide +kernel
theorem dX12_pitch_40 : decode cX12_pitch 40 = .ok (.invokevirtual 229, 3) := by decide +kernel
theorem dX12_pitch_43 : decode cX12_pitch 43 = .ok (.ireturn, 1) := by decide +kernel
theorem dX12_smile_0 : decode cX12_smile 0 = .ok (.aload_n 0, 1) := by decide +kernel
theorem dX12_smile_1 : decode cX12_smile 1 = .ok (.iload_n 1, 1) := by decide +kernel
theorem dX12_smile_2 : decode cX12_smile 2 = .ok (.invokevirtual 110, 3) := by decide +kernel
theorem dX12_smile_5 : decode cX12_smile 5 = .ok (.ifCond .eq 13, 3) := by decide +kernel
theorem dX12_smile_8 : decode cX12_smile 8 = .ok (.iload_n 2, 1) := by decide +kernel
theorem dX12_smile_9 : decode cX12_smile 9 = .ok (.iconst 1, 1) := by decide +kernel
theorem dX12_smile_10 : decode cX12_smile 10 = .ok (.bipush 60, 2) := by decide +kernel
theorem dX12_smile_12 : decode cX12_smile 12 = .ok (.invokestatic 198, 3) := by decide +kernel
theorem dX12_smile_15 : decode cX12_smile 15 = .ok (.ifCond .ne 5, 3) := by decide +kernel
theorem dX12_smile_18 : decode cX12_smile 18 = .ok (.iconst (-1), 1) := by decide +kernel
theorem dX12_smile_19 : decode cX12_smile 19 = .ok (.ireturn, 1) := by decide +kernel
theorem dX12_smile_20 : decode cX12_smile 20 = .ok (.aload_n 0, 1) := by decide +kernel
theorem dX12_smile_21 : decode cX12_smile 21 = .ok (.invokevirtual 191, 3) := by decide +kernel
theorem dX12_smile_24 : decode cX12_smile 24 = .ok (.aload_n 0, 1) := by decide +kernel
theorem dX12_smile_25 : decode cX12_smile 25 = .ok (.getfield 70, 3) := by decide +kernel
theorem dX12_smile_28 : decode cX12_smile 28 = .ok (.iload_n 1, 1) := by decide +kernel
theorem dX12_smile_29 : decode cX12_smile 29 = .ok (.iload_n 2, 1) := by decide +kernel
theorem dX12_smile_30 : decode cX12_smile 30 = .ok (.invokevirtual 233, 3) := by decide +kernel
theorem dX12_smile_33 : decode cX12_smile 33 = .ok (.ireturn, 1) := by decide +kernel
theorem dX12_way_0 : decode cX12_way 0 = .ok (.aload_n 0, 1) := by decide +kernel
theorem dX12_way_1 : decode cX12_way 1 = .ok (.iload_n 1, 1) := by decide +kernel
theorem dX12_way_2 : decode cX12_way 2 = .ok (.invokevirtual 158, 3) := by decide +kernel
theorem dX12_way_5 : decode cX12_way 5 = .ok (.ifCond .eq 20, 3) := by decide +kernel
theorem dX12_way_8 : decode cX12_way 8 = .ok (.aload_n 0, 1) := by decide +kernel
theorem dX12_way_9 : decode cX12_way 9 = .ok (.iload_n 2, 1) := by decide +kernel
theorem dX12_way_10 : decode cX12_way 10 = .ok (.invokevirtual 158, 3) := by decide +kernel
theorem dX12_way_13 : decode cX12_way 13 = .ok (.ifCond .eq 12, 3) := by decide +kernel
theorem dX12_way_16 : decode cX12_way 16 = .ok (.iload_n 3, 1) := by decide +kernel
theorem dX12_way_17 : decode cX12_way 17 = .ok (.iconst 0, 1) := by decide +kernel
theorem dX12_way_18 : decode cX12_way 18 = .ok (.iconst 1, 1) := by decide +kernel
theorem dX12_way_19 : decode cX12_way 19 = .ok (.invokestatic 198, 3) := by decide +kernel
theorem dX12_way_22 : decode cX12_way 22 = .ok (.ifCond .ne 5, 3) := by decide +kernel
theorem dX12_way_25 : decode cX12_way 25 = .ok (.iconst (-1), 1) := by decide +kernel
theorem dX12_way_26 : decode cX12_way 26 = .ok (.ireturn, 1) := by decide +kernel
theorem dX12_way_27 : decode cX12_way 27 = .ok (.aload_n 0, 1) := by decide +kernel
theorem dX12_way_28 : decode cX12_way 28 = .ok (.getfield 61, 3) := by decide +kernel
theorem dX12_way_31 : decode cX12_way 31 = .ok (.getfield 237, 3) := by decide +kernel
theorem dX12_way_34 : decode cX12_way 34 = .ok (.aload_n 0, 1) := by decide +kernel
theorem dX12_way_35 : decode cX12_way 35 = .ok (.getfield 53, 3) := by decide +kernel
theorem dX12_way_38 : decode cX12_way 38 = .ok (.getfield 114, 3) := by decide +kernel
theorem dX12_way_41 : decode cX12_way 41 = .ok (.getfield 161, 3) := by decide +kernel
theorem dX12_way_44 : decode cX12_way 44 = .ok (.invokevirtual 241, 3) := by decide +kernel
theorem dX12_way_47 : decode cX12_way 47 = .ok (.aload_n 0, 1) := by decide +kernel
theorem dX12_way_48 : decode cX12_way 48 = .ok (.getfield 61, 3) := by decide +kernel
theorem dX12_way_51 : decode cX12_way 51 = .ok (.getfield 237, 3) := by decide +kernel
theorem dX12_way_54 : decode cX12_way 54 = .ok (.iload_n 1, 1) := by decide +kernel
theorem dX12_way_55 : decode cX12_way 55 = .ok (.iload_n 2, 1) := by decide +kernel
theorem dX12_way_56 : decode cX12_way 56 = .ok (.invokevirtual 245, 3) := by decide +kernel
theorem dX12_way_59 : decode cX12_way 59 = .ok (.istore 4, 2) := by decide +kernel
theorem dX12_way_61 : decode cX12_way 61 = .ok (.iload 4, 2) := by decide +kernel
theorem dX12_way_63 : decode cX12_way 63 = .ok (.bipush 99, 2) := by decide +kernel
theorem dX12_way_65 : decode cX12_way 65 = .ok (.if_icmp .ne 6, 3) := by decide +kernel
theorem dX12_way_68 : decode cX12_way 68 = .ok (.bipush (-2), 2) := by decide +kernel
theorem dX12_way_70 : decode cX12_way 70 = .ok (.ireturn, 1) := by decide +kernel
theorem dX12_way_71 : decode cX12_way 71 = .ok (.iload_n 3, 1) := by decide +kernel
theorem dX12_way_72 : decode cX12_way 72 = .ok (.ifCond .ne 8, 3) := by decide +kernel
theorem dX12_way_75 : decode cX12_way 75 = .ok (.iload 4, 2) := by decide +kernel
theorem dX12_way_77 : decode cX12_way 77 = .ok (.goto 15, 3) := by decide +kernel
theorem dX12_way_80 : decode cX12_way 80 = .ok (.aload_n 0, 1) := by decide +kernel
theorem dX12_way_81 : decode cX12_way 81 = .ok (.getfield 61, 3) := by decide +kernel
theorem dX12_way_84 : decode cX12_way 84 = .ok (.getfield 237, 3) := by decide +kernel
theorem dX12_way_87 : decode cX12_way 87 = .ok (.iload_n 1, 1) := by decide +kernel
theorem dX12_way_88 : decode cX12_way 88 = .ok (.iload_n 2, 1) := by decide +kernel
theorem dX12_way_89 : decode cX12_way 89 = .ok (.invokevirtual 248, 3) := by decide +kernel
theorem dX12_way_92 : decode cX12_way 92 = .ok (.ireturn, 1) := by decide +kernel
theorem dX12_came_0 : decode cX12_came 0 = .ok (.aload_n 0, 1) := by decide +kernel
theorem dX12_came_1 : decode cX12_came 1 = .ok (.iload_n 1, 1) := by decide +kernel
theorem dX12_came_2 : decode cX12_came 2 = .ok (.invokevirtual 143, 3) := by decide +kernel
theorem dX12_came_5 : decode cX12_came 5 = .ok (.ifCond .eq 31, 3) := by decide +kernel
theorem dX12_came_8 : decode cX12_came 8 = .ok (.iload_n 2, 1) := by decide +kernel
theorem dX12_came_9 : decode cX12_came 9 = .ok (.iconst 1, 1) := by decide +kernel
theorem dX12_came_10 : decode cX12_came 10 = .ok (.bipush 30, 2) := by decide +kernel
theorem dX12_came_12 : decode cX12_came 12 = .ok (.invokestatic 198, 3) := by decide +kernel
theorem dX12_came_15 : decode cX12_came 15 = .ok (.ifCond .eq 21, 3) := by decide +kernel
theorem dX12_came_18 : decode cX12_came 18 = .ok (.aload_n 0, 1) := by decide +kernel
theorem dX12_came_19 : decode cX12_came 19 = .ok (.iload_n 3, 1) := by decide +kernel
theorem dX12_came_20 : decode cX12_came 20 = .ok (.invokevirtual 158, 3) := by decide +kernel
theorem dX12_came_23 : decode cX12_came 23 = .ok (.ifCond .eq 13, 3) := by decide +kernel
theorem dX12_came_26 : decode cX12_came 26 = .ok (.iload 4, 2) := by decide +kernel
theorem dX12_came_28 : decode cX12_came 28 = .ok (.iconst 0, 1) := by decide +kernel
theorem dX12_came_29 : decode cX12_came 29 = .ok (.iconst 1, 1) := by decide +kernel
theorem dX12_came_30 : decode cX12_came 30 = .ok (.invokestatic 198, 3) := by decide +kernel
theorem dX12_came_33 : decode cX12_came 33 = .ok (.ifCond .ne 5, 3) := by decide +kernel
theorem dX12_came_36 : decode cX12_came 36 = .ok (.iconst (-1), 1) := by decide +kernel
theorem dX12_came_37 : decode cX12_came 37 = .ok (.ireturn, 1) := by decide +kernel
theorem dX12_came_38 : decode cX12_came 38 = .ok (.aload_n 0, 1) := by decide +kernel
theorem dX12_came_39 : decode cX12_came 39 = .ok (.invokevirtual 191, 3) := by decide +kernel
theorem dX12_came_42 : decode cX12_came 42 = .ok (.aload_n 0, 1) := by decide +kernel
theorem dX12_came_43 : decode cX12_came 43 = .ok (.getfield 70, 3) := by decide +kernel
theorem dX12_came_46 : decode cX12_came 46 = .ok (.iload_n 1, 1) := by decide +kernel
theorem dX12_came_47 : decode cX12_came 47 = .ok (.iload_n 2, 1) := by decide +kernel
theorem dX12_came_48 : decode cX12_came 48 = .ok (.iload_n 3, 1) := by decide +kernel
theorem dX12_came_49 : decode cX12_came 49 = .ok (.iload 4, 2) := by decide +kernel
theorem dX12_came_51 : decode cX12_came 51 = .ok (.invokevirtual 251, 3) := by decide +kernel
theorem dX12_came_54 : decode cX12_came 54 = .ok (.ireturn, 1) := by decide +kernel
theorem dX12_post_0 : decode cX12_post 0 = .ok (.aload_n 0, 1) := by decide +kernel
theorem dX12_post_1 : decode cX12_post 1 = .ok (.invokevirtual 174, 3) := by decide +kernel
theorem dX12_post_4 : decode cX12_post 4 = .ok (.ifCond .eq 22, 3) := by decide +kernel
theorem dX12_post_7 : decode cX12_post 7 = .ok (.iload_n 1, 1) := by decide +kernel
theorem dX12_post_8 : decode cX12_post 8 = .ok (.iconst 1, 1) := by decide +kernel
theorem dX12_post_9 : decode cX12_post 9 = .ok (.bipush 60, 2) := by decide +kernel
theorem dX12_post_11 : decode cX12_post 11 = .ok (.invokestatic 198, 3) := by decide +kernel
theorem dX12_post_14 : decode cX12_post 14 = .ok (.ifCond .eq 12, 3) := by decide +kernel
theorem dX12_post_17 : decode cX12_post 17 = .ok (.iload_n 2, 1) := by decide +kernel
theorem dX12_post_18 : decode cX12_post 18 = .ok (.iconst 0, 1) := by decide +kernel
theorem dX12_post_19 : decode cX12_post 19 = .ok (.iconst 2, 1) := by decide +kernel
theorem dX12_post_20 : decode cX12_post 20 = .ok (.invokestatic 198, 3) := by decide +kernel
theorem dX12_post_23 : decode cX12_post 23 = .ok (.ifCond .ne 6, 3) := by decide +kernel
theorem dX12_post_26 : decode cX12_post 26 = .ok (.bipush (-2), 2) := by decide +kernel
theorem dX12_post_28 : decode cX12_post 28 = .ok (.ireturn, 1) := by decide +kernel
theorem dX12_post_29 : decode cX12_post 29 = .ok (.aload_n 0, 1) := by decide +kernel
theorem dX12_post_30 : decode cX12_post 30 = .ok (.invokevirtual 191, 3) := by decide +kernel
theorem dX12_post_33 : decode cX12_post 33 = .ok (.aload_n 0, 1) := by decide +kernel
theorem dX12_post_34 : decode cX12_post 34 = .ok (.getfield 70, 3) := by decide +kernel
theorem dX12_post_37 : decode cX12_post 37 = .ok (.iload_n 1, 1) := by decide +kernel
theorem dX12_post_38 : decode cX12_post 38 = .ok (.iload_n 2, 1) := by decide +kernel
theorem dX12_post_39 : decode cX12_post 39 = .ok (.invokevirtual 255, 3) := by decide +kernel
theorem dX12_post_42 : decode cX12_post 42 = .ok (.ireturn, 1) := by decide +kernel
theorem dX12_game_0 : decode cX12_game 0 = .ok (.aload_n 0, 1) := by decide +kernel
theorem dX12_game_1 : decode cX12_game 1 = .ok (.iload_n 1, 1) := by decide +kernel
theorem dX12_game_2 : decode cX12_game 2 = .ok (.invokevirtual 110, 3) := by decide +kernel
theorem dX12_game_5 : decode cX12_game 5 = .ok (.ifCond .eq 20, 3) := by decide +kernel
theorem dX12_game_8 : decode cX12_game 8 = .ok (.aload_n 0, 1) := by decide +kernel
theorem dX12_game_9 : decode cX12_game 9 = .ok (.iload_n 2, 1) := by decide +kernel
theorem dX12_game_10 : decode cX12_game 10 = .ok (.invokevirtual 110, 3) := by decide +kernel
theorem dX12_game_13 : decode cX12_game 13 = .ok (.ifCond .eq 12, 3) := by decide +kernel
theorem dX12_game_16 : decode cX12_game 16 = .ok (.iload_n 1, 1) := by decide +kernel
theorem dX12_game_17 : decode cX12_game 17 = .ok (.iload_n 2, 1) := by decide +kernel
theorem dX12_game_18 : decode cX12_game 18 = .ok (.if_icmp .eq 7, 3) := by decide +kernel
theorem dX12_game_21 : decode cX12_game 21 = .ok (.iconst 1, 1) := by decide +kernel
theorem dX12_game_22 : decode cX12_game 22 = .ok (.goto 4, 3) := by decide +kernel
theorem dX12_game_25 : decode cX12_game 25 = .ok (.iconst 0, 1) := by decide +kernel
theorem dX12_game_26 : decode cX12_game 26 = .ok (.istore 5, 2) := by decide +kernel
theorem dX12_game_28 : decode cX12_game 28 = .ok (.iload 5, 2) := by decide +kernel
theorem dX12_game_30 : decode cX12_game 30 = .ok (.ifCond .eq 22, 3) := by decide +kernel
theorem dX12_game_33 : decode cX12_game 33 = .ok (.iload_n 3, 1) := by decide +kernel
theorem dX12_game_34 : decode cX12_game 34 = .ok (.iconst 1, 1) := by decide +kernel
theorem dX12_game_35 : decode cX12_game 35 = .ok (.iconst 3, 1) := by decide +kernel
theorem dX12_game_36 : decode cX12_game 36 = .ok (.invokestatic 198, 3) := by decide +kernel
theorem dX12_game_39 : decode cX12_game 39 = .ok (.ifCond .eq 13, 3) := by decide +kernel
theorem dX12_game_42 : decode cX12_game 42 = .ok (.iload 4, 2) := by decide +kernel
theorem dX12_game_44 : decode cX12_game 44 = .ok (.iconst 0, 1) := by decide +kernel
theorem dX12_game_45 : decode cX12_game 45 = .ok (.iconst 1, 1) := by decide +kernel
theorem dX12_game_46 : decode cX12_game 46 = .ok (.invokestatic 198, 3) := by decide +kernel
theorem dX12_game_49 : decode cX12_game 49 = .ok (.ifCond .ne 7, 3) := by decide +kernel
theorem dX12_game_52 : decode cX12_game 52 = .ok (.sipush (-1000), 3) := by decide +kernel
theorem dX12_game_55 : decode cX12_game 55 = .ok (.ireturn, 1) := by decide +kernel
theorem dX12_game_56 : decode cX12_game 56 = .ok (.aload_n 0, 1) := by decide +kernel
theorem dX12_game_57 : decode cX12_game 57 = .ok (.invokevirtual 191, 3) := by decide +kernel
theorem dX12_game_60 : decode cX12_game 60 = .ok (.aload_n 0, 1) := by decide +kernel
theorem dX12_game_61 : decode cX12_game 61 = .ok (.getfield 70, 3) := by decide +kernel
theorem dX12_game_64 : decode cX12_game 64 = .ok (.iload_n 1, 1) := by decide +kernel
theorem dX12_game_65 : decode cX12_game 65 = .ok (.iload_n 2, 1) := by decide +kernel
theorem dX12_game_66 : decode cX12_game 66 = .ok (.iload_n 3, 1) := by decide +kernel
theorem dX12_game_67 : decode cX12_game 67 = .ok (.iload 4, 2) := by decide +kernel
theorem dX12_game_69 : decode cX12_game 69 = .ok (.invokevirtual 258, 3) := by decide +kernel
theorem dX12_game_72 : decode cX12_game 72 = .ok (.ireturn, 1) := by decide +kernel
theorem dX12_rests_0 : decode cX12_rests 0 = .ok (.aload_n 0, 1) := by decide +kernel
theorem dX12_rests_1 : decode cX12_rests 1 = .ok (.iload_n 1, 1) := by decide +kernel
theorem dX12_rests_2 : decode cX12_rests 2 = .ok (.invokevirtual 110, 3) := by decide +kernel
theorem dX12_rests_5 : decode cX12_rests 5 = .ok (.ifCond .eq 20, 3) := by decide +kernel
theorem dX12_rests_8 : decode cX12_rests 8 = .ok (.aload_n 0, 1) := by decide +kernel
theorem dX12_rests_9 : decode cX12_rests 9 = .ok (.iload_n 2, 1) := by decide +kernel
theorem dX12_rests_10 : decode cX12_rests 10 = .ok (.invokevirtual 110, 3) := by decide +kernel
theorem dX12_rests_13 : decode cX12_rests 13 = .ok (.ifCond .eq 12, 3) := by decide +kernel
theorem dX12_rests_16 : decode cX12_rests 16 = .ok (.iload_n 1, 1) := by decide +kernel
theorem dX12_rests_17 : decode cX12_rests 17 = .ok (.iload_n 2, 1) := by decide +kernel
theorem dX12_rests_18 : decode cX12_rests 18 = .ok (.if_icmp .eq 7, 3) := by decide +kernel
theorem dX12_rests_21 : decode cX12_rests 21 = .ok (.iconst 1, 1) := by decide +kernel
theorem dX12_rests_22 : decode cX12_rests 22 = .ok (.goto 4, 3) := by decide +kernel
theorem dX12_rests_25 : decode cX12_rests 25 = .ok (.iconst 0, 1) := by decide +kernel
theorem dX12_rests_26 : decode cX12_rests 26 = .ok (.istore 5, 2) := by decide +kernel
theorem dX12_rests_28 : decode cX12_rests 28 = .ok (.iload 5, 2) := by decide +kernel
theorem dX12_rests_30 : decode cX12_rests 30 = .ok (.ifCond .eq 23, 3) := by decide +kernel
theorem dX12_rests_33 : decode cX12_rests 33 = .ok (.iload_n 3, 1) := by decide +kernel
theorem dX12_rests_34 : decode cX12_rests 34 = .ok (.iconst 1, 1) := by decide +kernel
theorem dX12_rests_35 : decode cX12_rests 35 = .ok (.bipush 20, 2) := by decide +kernel
theorem dX12_rests_37 : decode cX12_rests 37 = .ok (.invokestatic 198, 3) := by decide +kernel
theorem dX12_rests_40 : decode cX12_rests 40 = .ok (.ifCond .eq 13, 3) := by decide +kernel
theorem dX12_rests_43 : decode cX12_rests 43 = .ok (.iload 4, 2) := by decide +kernel
theorem dX12_rests_45 : decode cX12_rests 45 = .ok (.iconst 0, 1) := by decide +kernel
theorem dX12_rests_46 : decode cX12_rests 46 = .ok (.iconst 2, 1) := by decide +kernel
theorem dX12_rests_47 : decode cX12_rests 47 = .ok (.invokestatic 198, 3) := by decide +kernel
theorem dX12_rests_50 : decode cX12_rests 50 = .ok (.ifCond .ne 5, 3) := by decide +kernel
theorem dX12_rests_53 : decode cX12_rests 53 = .ok (.iconst (-1), 1) := by decide +kernel
theorem dX12_rests_54 : decode cX12_rests 54 = .ok (.ireturn, 1) := by decide +kernel
theorem dX12_rests_55 : decode cX12_rests 55 = .ok (.aload_n 0, 1) := by decide +kernel
theorem dX12_rests_56 : decode cX12_rests 56 = .ok (.invokevirtual 191, 3) := by decide +kernel
theorem dX12_rests_59 : decode cX12_rests 59 = .ok (.aload_n 0, 1) := by decide +kernel
theorem dX12_rests_60 : decode cX12_rests 60 = .ok (.getfield 70, 3) := by decide +kernel
theorem dX12_rests_63 : decode cX12_rests 63 = .ok (.iload_n 1, 1) := by decide +kernel
theorem dX12_rests_64 : decode cX12_rests 64 = .ok (.iload_n 2, 1) := by decide +kernel
theorem dX12_rests_65 : decode cX12_rests 65 = .ok (.iload_n 3, 1) := by decide +kernel
theorem dX12_rests_66 : decode cX12_rests 66 = .ok (.iload 4, 2) := by decide +kernel
theorem dX12_rests_68 : decode cX12_rests 68 = .ok (.invokevirtual 261, 3) := by decide +kernel
theorem dX12_rests_71 : decode cX12_rests 71 = .ok (.ireturn, 1) := by decide +kernel
theorem dX12_pence_0 : decode cX12_pence 0 = .ok (.iload_n 1, 1) := by decide +kernel
theorem dX12_pence_1 : decode cX12_pence 1 = .ok (.iconst 0, 1) := by decide +kernel
theorem dX12_pence_2 : decode cX12_pence 2 = .ok (.sipush 9999, 3) := by decide +kernel
theorem dX12_pence_5 : decode cX12_pence 5 = .ok (.invokestatic 198, 3) := by decide +kernel
theorem dX12_pence_8 : decode cX12_pence 8 = .ok (.ifCond .eq 11, 3) := by decide +kernel
theorem dX12_pence_11 : decode cX12_pence 11 = .ok (.aload_n 0, 1) := by decide +kernel
theorem dX12_pence_12 : decode cX12_pence 12 = .ok (.iload_n 2, 1) := by decide +kernel
theorem dX12_pence_13 : decode cX12_pence 13 = .ok (.invokevirtual 110, 3) := by decide +kernel
theorem dX12_pence_16 : decode cX12_pence 16 = .ok (.ifCond .ne 5, 3) := by decide +kernel
theorem dX12_pence_19 : decode cX12_pence 19 = .ok (.iconst (-1), 1) := by decide +kernel
theorem dX12_pence_20 : decode cX12_pence 20 = .ok (.ireturn, 1) := by decide +kernel
theorem dX12_pence_21 : decode cX12_pence 21 = .ok (.aload_n 0, 1) := by decide +kernel
theorem dX12_pence_22 : decode cX12_pence 22 = .ok (.getfield 53, 3) := by decide +kernel
theorem dX12_pence_25 : decode cX12_pence 25 = .ok (.iload_n 1, 1) := by decide +kernel
theorem dX12_pence_26 : decode cX12_pence 26 = .ok (.iload_n 2, 1) := by decide +kernel
theorem dX12_pence_27 : decode cX12_pence 27 = .ok (.invokevirtual 264, 3) := by decide +kernel
theorem dX12_pence_30 : decode cX12_pence 30 = .ok (.ireturn, 1) := by decide +kernel
theorem dX12_markets_0 : decode cX12_markets 0 = .ok (.iload_n 1, 1) := by decide +kernel
theorem dX12_markets_1 : decode cX12_markets 1 = .ok (.iconst 1, 1) := by decide +kernel
theorem dX12_markets_2 : decode cX12_markets 2 = .ok (.bipush 10, 2) := by decide +kernel
theorem dX12_markets_4 : decode cX12_markets 4 = .ok (.invokestatic 198, 3) := by decide +kernel
theorem dX12_markets_7 : decode cX12_markets 7 = .ok (.ifCond .eq 27, 3) := by decide +kernel
theorem dX12_markets_10 : decode cX12_markets 10 = .ok (.iload_n 2, 1) := by decide +kernel
theorem dX12_markets_11 : decode cX12_markets 11 = .ok (.iconst 1, 1) := by decide +kernel
theorem dX12_markets_12 : decode cX12_markets 12 = .ok (.bipush 60, 2) := by decide +kernel
theorem dX12_markets_14 : decode cX12_markets 14 = .ok (.invokestatic 198, 3) := by decide +kernel
theorem dX12_markets_17 : decode cX12_markets 17 = .ok (.ifCond .eq 17, 3) := by decide +kernel
theorem dX12_markets_20 : decode cX12_markets 20 = .ok (.iload_n 3, 1) := by decide +kernel
theorem dX12_markets_21 : decode cX12_markets 21 = .ok (.iconst 0, 1) := by decide +kernel
theorem dX12_markets_22 : decode cX12_markets 22 = .ok (.bipush 100, 2) := by decide +kernel
theorem dX12_markets_24 : decode cX12_markets 24 = .ok (.invokestatic 198, 3) := by decide +kernel
theorem dX12_markets_27 : decode cX12_markets 27 = .ok (.ifCond .eq 7, 3) := by decide +kernel
theorem dX12_markets_30 : decode cX12_markets 30 = .ok (.iconst 1, 1) := by decide +kernel
theorem dX12_markets_31 : decode cX12_markets 31 = .ok (.goto 4, 3) := by decide +kernel
theorem dX12_markets_34 : decode cX12_markets 34 = .ok (.iconst 0, 1) := by decide +kernel
theorem dX12_markets_35 : decode cX12_markets 35 = .ok (.istore 5, 2) := by decide +kernel
theorem dX12_markets_37 : decode cX12_markets 37 = .ok (.aload_n 0, 1) := by decide +kernel
theorem dX12_markets_38 : decode cX12_markets 38 = .ok (.invokevirtual 174, 3) := by decide +kernel
theorem dX12_markets_41 : decode cX12_markets 41 = .ok (.ifCond .eq 18, 3) := by decide +kernel
theorem dX12_markets_44 : decode cX12_markets 44 = .ok (.iload 5, 2) := by decide +kernel
theorem dX12_markets_46 : decode cX12_markets 46 = .ok (.ifCond .eq 13, 3) := by decide +kernel
theorem dX12_markets_49 : decode cX12_markets 49 = .ok (.iload 4, 2) := by decide +kernel
theorem dX12_markets_51 : decode cX12_markets 51 = .ok (.iconst 0, 1) := by decide +kernel
theorem dX12_markets_52 : decode cX12_markets 52 = .ok (.iconst 1, 1) := by decide +kernel
theorem dX12_markets_53 : decode cX12_markets 53 = .ok (.invokestatic 198, 3) := by decide +kernel
theorem dX12_markets_56 : decode cX12_markets 56 = .ok (.ifCond .ne 5, 3) := by decide +kernel
theorem dX12_markets_59 : decode cX12_markets 59 = .ok (.iconst (-1), 1) := by decide +kernel
theorem dX12_markets_60 : decode cX12_markets 60 = .ok (.ireturn, 1) := by decide +kernel
theorem dX12_markets_61 : decode cX12_markets 61 = .ok (.aload_n 0, 1) := by decide +kernel
theorem dX12_markets_62 : decode cX12_markets 62 = .ok (.invokevirtual 191, 3) := by decide +kernel
theorem dX12_markets_65 : decode cX12_markets 65 = .ok (.aload_n 0, 1) := by decide +kernel
theorem dX12_markets_66 : decode cX12_markets 66 = .ok (.getfield 70, 3) := by decide +kernel
theorem dX12_markets_69 : decode cX12_markets 69 = .ok (.iload_n 1, 1) := by decide +kernel
theorem dX12_markets_70 : decode cX12_markets 70 = .ok (.iload_n 2, 1) := by decide +kernel
theorem dX12_markets_71 : decode cX12_markets 71 = .ok (.iload_n 3, 1) := by decide +kernel
theorem dX12_markets_72 : decode cX12_markets 72 = .ok (.iload 4, 2) := by decide +kernel
theorem dX12_markets_74 : decode cX12_markets 74 = .ok (.invokevirtual 267, 3) := by decide +kernel
theorem dX12_markets_77 : decode cX12_markets 77 = .ok (.ireturn, 1) := by decide +kernel
theorem dX12_note_0 : decode cX12_note 0 = .ok (.iload_n 1, 1) := by decide +kernel
theorem dX12_note_1 : decode cX12_note 1 = .ok (.iconst (-1), 1) := by decide +kernel
theorem dX12_note_2 : decode cX12_note 2 = .ok (.if_icmp .ne 13, 3) := by decide +kernel
theorem dX12_note_5 : decode cX12_note 5 = .ok (.aload_n 0, 1) := by decide +kernel
theorem dX12_note_6 : decode cX12_note 6 = .ok (.getfield 53, 3) := by decide +kernel
theorem dX12_note_9 : decode cX12_note 9 = .ok (.iconst 0, 1) := by decide +kernel
theorem dX12_note_10 : decode cX12_note 10 = .ok (.putfield 270, 3) := by decide +kernel
theorem dX12_note_13 : decode cX12_note 13 = .ok (.iconst 0, 1) := by decide +kernel
theorem dX12_note_14 : decode cX12_note 14 = .ok (.ireturn, 1) := by decide +kernel
theorem dX12_note_15 : decode cX12_note 15 = .ok (.aload_n 0, 1) := by decide +kernel
theorem dX12_note_16 : decode cX12_note 16 = .ok (.iload_n 2, 1) := by decide +kernel
theorem dX12_note_17 : decode cX12_note 17 = .ok (.invokevirtual 143, 3) := by decide +kernel
theorem dX12_note_20 : decode cX12_note 20 = .ok (.ifCond .eq 20, 3) := by decide +kernel
theorem dX12_note_23 : decode cX12_note 23 = .ok (.iload_n 3, 1) := by decide +kernel
theorem dX12_note_24 : decode cX12_note 24 = .ok (.iconst (-1), 1) := by decide +kernel
theorem dX12_note_25 : decode cX12_note 25 = .ok (.if_icmp .eq 11, 3) := by decide +kernel
theorem dX12_note_28 : decode cX12_note 28 = .ok (.aload_n 0, 1) := by decide +kernel
theorem dX12_note_29 : decode cX12_note 29 = .ok (.iload_n 3, 1) := by decide +kernel
theorem dX12_note_30 : decode cX12_note 30 = .ok (.invokevirtual 110, 3) := by decide +kernel
theorem dX12_note_33 : decode cX12_note 33 = .ok (.ifCond .eq 7, 3) := by decide +kernel
theorem dX12_note_36 : decode cX12_note 36 = .ok (.iconst 1, 1) := by decide +kernel
theorem dX12_note_37 : decode cX12_note 37 = .ok (.goto 4, 3) := by decide +kernel
theorem dX12_note_40 : decode cX12_note 40 = .ok (.iconst 0, 1) := by decide +kernel
theorem dX12_note_41 : decode cX12_note 41 = .ok (.istore 4, 2) := by decide +kernel
theorem dX12_note_43 : decode cX12_note 43 = .ok (.iload_n 1, 1) := by decide +kernel
theorem dX12_note_44 : decode cX12_note 44 = .ok (.iconst 0, 1) := by decide +kernel
theorem dX12_note_45 : decode cX12_note 45 = .ok (.bipush 60, 2) := by decide +kernel
theorem dX12_note_47 : decode cX12_note 47 = .ok (.invokestatic 198, 3) := by decide +kernel
theorem dX12_note_50 : decode cX12_note 50 = .ok (.ifCond .eq 20, 3) := by decide +kernel
theorem dX12_note_53 : decode cX12_note 53 = .ok (.iload 4, 2) := by decide +kernel
theorem dX12_note_55 : decode cX12_note 55 = .ok (.ifCond .eq 15, 3) := by decide +kernel
theorem dX12_note_58 : decode cX12_note 58 = .ok (.aload_n 0, 1) := by decide +kernel
theorem dX12_note_59 : decode cX12_note 59 = .ok (.getfield 53, 3) := by decide +kernel
theorem dX12_note_62 : decode cX12_note 62 = .ok (.getfield 270, 3) := by decide +kernel
theorem dX12_note_65 : decode cX12_note 65 = .ok (.bipush 10, 2) := by decide +kernel
theorem dX12_note_67 : decode cX12_note 67 = .ok (.if_icmp .lt 6, 3) := by decide +kernel
theorem dX12_note_70 : decode cX12_note 70 = .ok (.bipush (-2), 2) := by decide +kernel
theorem dX12_note_72 : decode cX12_note 72 = .ok (.ireturn, 1) := by decide +kernel
theorem dX12_note_73 : decode cX12_note 73 = .ok (.aload_n 0, 1) := by decide +kernel
theorem dX12_note_74 : decode cX12_note 74 = .ok (.getfield 53, 3) := by decide +kernel
theorem dX12_note_77 : decode cX12_note 77 = .ok (.iload_n 1, 1) := by decide +kernel
theorem dX12_note_78 : decode cX12_note 78 = .ok (.iload_n 2, 1) := by decide +kernel
theorem dX12_note_79 : decode cX12_note 79 = .ok (.iload_n 3, 1) := by decide +kernel
theorem dX12_note_80 : decode cX12_note 80 = .ok (.invokevirtual 273, 3) := by decide +kernel
theorem dX12_note_83 : decode cX12_note 83 = .ok (.aload_n 0, 1) := by decide +kernel
theorem dX12_note_84 : decode cX12_note 84 = .ok (.getfield 53, 3) := by decide +kernel
theorem dX12_note_87 : decode cX12_note 87 = .ok (.getfield 270, 3) := by decide +kernel
theorem dX12_note_90 : decode cX12_note 90 = .ok (.ireturn, 1) := by decide +kernel
theorem dX12_liars_0 : decode cX12_liars 0 = .ok (.aload_n 0, 1) := by decide +kernel
theorem dX12_liars_1 : decode cX12_liars 1 = .ok (.invokevirtual 174, 3) := by decide +kernel
theorem dX12_liars_4 : decode cX12_liars 4 = .ok (.ifCond .eq 12, 3) := by decide +kernel
theorem dX12_liars_7 : decode cX12_liars 7 = .ok (.iload_n 1, 1) := by decide +kernel
theorem dX12_liars_8 : decode cX12_liars 8 = .ok (.iconst 0, 1) := by decide +kernel
theorem dX12_liars_9 : decode cX12_liars 9 = .ok (.iconst 2, 1) := by decide +kernel
theorem dX12_liars_10 : decode cX12_liars 10 = .ok (.invokestatic 198, 3) := by decide +kernel
theorem dX12_liars_13 : decode cX12_liars 13 = .ok (.ifCond .ne 6, 3) := by decide +kernel
theorem dX12_liars_16 : decode cX12_liars 16 = .ok (.bipush (-3), 2) := by decide +kernel
theorem dX12_liars_18 : decode cX12_liars 18 = .ok (.ireturn, 1) := by decide +kernel
theorem dX12_liars_19 : decode cX12_liars 19 = .ok (.aload_n 0, 1) := by decide +kernel
theorem dX12_liars_20 : decode cX12_liars 20 = .ok (.getfield 77, 3) := by decide +kernel
theorem dX12_liars_23 : decode cX12_liars 23 = .ok (.aload_n 0, 1) := by decide +kernel
theorem dX12_liars_24 : decode cX12_liars 24 = .ok (.aload_n 0, 1) := by decide +kernel
theorem dX12_liars_25 : decode cX12_liars 25 = .ok (.getfield 53, 3) := by decide +kernel
theorem dX12_liars_28 : decode cX12_liars 28 = .ok (.getfield 107, 3) := by decide +kernel
theorem dX12_liars_31 : decode cX12_liars 31 = .ok (.invokevirtual 277, 3) := by decide +kernel
theorem dX12_liars_34 : decode cX12_liars 34 = .ok (.iload_n 1, 1) := by decide +kernel
theorem dX12_liars_35 : decode cX12_liars 35 = .ok (.invokevirtual 281, 3) := by decide +kernel
theorem dX12_liars_38 : decode cX12_liars 38 = .ok (.ireturn, 1) := by decide +kernel
theorem dX12_ruled_0 : decode cX12_ruled 0 = .ok (.aload_n 0, 1) := by decide +kernel
theorem dX12_ruled_1 : decode cX12_ruled 1 = .ok (.invokevirtual 174, 3) := by decide +kernel
theorem dX12_ruled_4 : decode cX12_ruled 4 = .ok (.ifCond .eq 12, 3) := by decide +kernel
theorem dX12_ruled_7 : decode cX12_ruled 7 = .ok (.iload_n 1, 1) := by decide +kernel
theorem dX12_ruled_8 : decode cX12_ruled 8 = .ok (.iconst 0, 1) := by decide +kernel
theorem dX12_ruled_9 : decode cX12_ruled 9 = .ok (.iconst 1, 1) := by decide +kernel
theorem dX12_ruled_10 : decode cX12_ruled 10 = .ok (.invokestatic 198, 3) := by decide +kernel
theorem dX12_ruled_13 : decode cX12_ruled 13 = .ok (.ifCond .ne 6, 3) := by decide +kernel
theorem dX12_ruled_16 : decode cX12_ruled 16 = .ok (.bipush (-3), 2) := by decide +kernel
theorem dX12_ruled_18 : decode cX12_ruled 18 = .ok (.ireturn, 1) := by decide +kernel
theorem dX12_ruled_19 : decode cX12_ruled 19 = .ok (.aload_n 0, 1) := by decide +kernel
theorem dX12_ruled_20 : decode cX12_ruled 20 = .ok (.getfield 77, 3) := by decide +kernel
theorem dX12_ruled_23 : decode cX12_ruled 23 = .ok (.aload_n 0, 1) := by decide +kernel
theorem dX12_ruled_24 : decode cX12_ruled 24 = .ok (.getfield 40, 3) := by decide +kernel
theorem dX12_ruled_27 : decode cX12_ruled 27 = .ok (.aload_n 0, 1) := by decide +kernel
theorem dX12_ruled_28 : decode cX12_ruled 28 = .ok (.getfield 44, 3) := by decide +kernel
theorem dX12_ruled_31 : decode cX12_ruled 31 = .ok (.iload_n 1, 1) := by decide +kernel
theorem dX12_ruled_32 : decode cX12_ruled 32 = .ok (.invokevirtual 285, 3) := by decide +kernel
theorem dX12_ruled_35 : decode cX12_ruled 35 = .ok (.ireturn, 1) := by decide +kernel
theorem dX12_look_0 : decode cX12_look 0 = .ok (.aload_n 0, 1) := by decide +kernel
theorem dX12_look_1 : decode cX12_look 1 = .ok (.invokevirtual 174, 3) := by decide +kernel
theorem dX12_look_4 : decode cX12_look 4 = .ok (.ifCond .eq 22, 3) := by decide +kernel
theorem dX12_look_7 : decode cX12_look 7 = .ok (.iload_n 1, 1) := by decide +kernel
theorem dX12_look_8 : decode cX12_look 8 = .ok (.iconst 0, 1) := by decide +kernel
theorem dX12_look_9 : decode cX12_look 9 = .ok (.bipush 60, 2) := by decide +kernel
theorem dX12_look_11 : decode cX12_look 11 = .ok (.invokestatic 198, 3) := by decide +kernel
theorem dX12_look_14 : decode cX12_look 14 = .ok (.ifCond .eq 12, 3) := by decide +kernel
theorem dX12_look_17 : decode cX12_look 17 = .ok (.iload_n 2, 1) := by decide +kernel
theorem dX12_look_18 : decode cX12_look 18 = .ok (.iconst 0, 1) := by decide +kernel
theorem dX12_look_19 : decode cX12_look 19 = .ok (.iconst 1, 1) := by decide +kernel
theorem dX12_look_20 : decode cX12_look 20 = .ok (.invokestatic 198, 3) := by decide +kernel
theorem dX12_look_23 : decode cX12_look 23 = .ok (.ifCond .ne 5, 3) := by decide +kernel
theorem dX12_look_26 : decode cX12_look 26 = .ok (.iconst (-1), 1) := by decide +kernel
theorem dX12_look_27 : decode cX12_look 27 = .ok (.ireturn, 1) := by decide +kernel
theorem dX12_look_28 : decode cX12_look 28 = .ok (.aload_n 0, 1) := by decide +kernel
theorem dX12_look_29 : decode cX12_look 29 = .ok (.getfield 77, 3) := by decide +kernel
theorem dX12_look_32 : decode cX12_look 32 = .ok (.aload_n 0, 1) := by decide +kernel
theorem dX12_look_33 : decode cX12_look 33 = .ok (.getfield 40, 3) := by decide +kernel
theorem dX12_look_36 : decode cX12_look 36 = .ok (.aload_n 0, 1) := by decide +kernel
theorem dX12_look_37 : decode cX12_look 37 = .ok (.getfield 44, 3) := by decide +kernel
theorem dX12_look_40 : decode cX12_look 40 = .ok (.iload_n 1, 1) := by decide +kernel
theorem dX12_look_41 : decode cX12_look 41 = .ok (.iload_n 2, 1) := by decide +kernel
theorem dX12_look_42 : decode cX12_look 42 = .ok (.invokevirtual 289, 3) := by decide +kernel
theorem dX12_look_45 : decode cX12_look 45 = .ok (.ireturn, 1) := by decide +kernel
theorem dX12_seed_0 : decode cX12_seed 0 = .ok (.iload_n 1, 1) := by decide +kernel
theorem dX12_seed_1 : decode cX12_seed 1 = .ok (.ifCond .ge 5, 3) := by decide +kernel
theorem dX12_seed_4 : decode cX12_seed 4 = .ok (.iconst (-1), 1) := by decide +kernel
theorem dX12_seed_5 : decode cX12_seed 5 = .ok (.ireturn, 1) := by decide +kernel
theorem dX12_seed_6 : decode cX12_seed 6 = .ok (.aload_n 0, 1) := by decide +kernel
theorem dX12_seed_7 : decode cX12_seed 7 = .ok (.getfield 53, 3) := by decide +kernel
theorem dX12_seed_10 : decode cX12_seed 10 = .ok (.getfield 293, 3) := by decide +kernel
theorem dX12_seed_13 : decode cX12_seed 13 = .ok (.istore_n 2, 1) := by decide +kernel
theorem dX12_seed_14 : decode cX12_seed 14 = .ok (.aload_n 0, 1) := by decide +kernel
theorem dX12_seed_15 : decode cX12_seed 15 = .ok (.getfield 53, 3) := by decide +kernel
theorem dX12_seed_18 : decode cX12_seed 18 = .ok (.iload_n 1, 1) := by decide +kernel
theorem dX12_seed_19 : decode cX12_seed 19 = .ok (.putfield 293, 3) := by decide +kernel
theorem dX12_seed_22 : decode cX12_seed 22 = .ok (.iload_n 2, 1) := by decide +kernel
theorem dX12_seed_23 : decode cX12_seed 23 = .ok (.ireturn, 1) := by decide +kernel
theorem dX12_count_0 : decode cX12_count 0 = .ok (.iload_n 1, 1) := by decide +kernel
theorem dX12_count_1 : decode cX12_count 1 = .ok (.tableswitch 207 0 13 #[71, 82, 93, 104, 115, 120, 128, 139, 150, 161, 172, 180, 191, 199], 71) := by decide +kernel
theorem dX12_count_72 : decode cX12_count 72 = .ok (.aload_n 0, 1) := by decide +kernel
theorem dX12_count_73 : decode cX12_count 73 = .ok (.getfield 53, 3) := by decide +kernel
theorem dX12_count_76 : decode cX12_count 76 = .ok (.getfield 127, 3) := by decide +kernel
theorem dX12_count_79 : decode cX12_count 79 = .ok (.getfield 296, 3) := by decide +kernel
theorem dX12_count_82 : decode cX12_count 82 = .ok (.ireturn, 1) := by decide +kernel
theorem dX12_count_83 : decode cX12_count 83 = .ok (.aload_n 0, 1) := by decide +kernel
theorem dX12_count_84 : decode cX12_count 84 = .ok (.getfield 53, 3) := by decide +kernel
theorem dX12_count_87 : decode cX12_count 87 = .ok (.getfield 127, 3) := by decide +kernel
theorem dX12_count_90 : decode cX12_count 90 = .ok (.getfield 299, 3) := by decide +kernel
theorem dX12_count_93 : decode cX12_count 93 = .ok (.ireturn, 1) := by decide +kernel
theorem dX12_count_94 : decode cX12_count 94 = .ok (.aload_n 0, 1) := by decide +kernel
theorem dX12_count_95 : decode cX12_count 95 = .ok (.getfield 53, 3) := by decide +kernel
theorem dX12_count_98 : decode cX12_count 98 = .ok (.getfield 127, 3) := by decide +kernel
theorem dX12_count_101 : decode cX12_count 101 = .ok (.getfield 99, 3) := by decide +kernel
theorem dX12_count_104 : decode cX12_count 104 = .ok (.ireturn, 1) := by decide +kernel
theorem dX12_count_105 : decode cX12_count 105 = .ok (.aload_n 0, 1) := by decide +kernel
theorem dX12_count_106 : decode cX12_count 106 = .ok (.getfield 53, 3) := by decide +kernel
theorem dX12_count_109 : decode cX12_count 109 = .ok (.getfield 127, 3) := by decide +kernel
theorem dX12_count_112 : decode cX12_count 112 = .ok (.getfield 302, 3) := by decide +kernel
theorem dX12_count_115 : decode cX12_count 115 = .ok (.ireturn, 1) := by decide +kernel
theorem dX12_count_116 : decode cX12_count 116 = .ok (.aload_n 0, 1) := by decide +kernel
theorem dX12_count_117 : decode cX12_count 117 = .ok (.getfield 44, 3) := by decide +kernel
theorem dX12_count_120 : decode cX12_count 120 = .ok (.ireturn, 1) := by decide +kernel
theorem dX12_count_121 : decode cX12_count 121 = .ok (.aload_n 0, 1) := by decide +kernel
theorem dX12_count_122 : decode cX12_count 122 = .ok (.getfield 53, 3) := by decide +kernel
theorem dX12_count_125 : decode cX12_count 125 = .ok (.getfield 107, 3) := by decide +kernel
theorem dX12_count_128 : decode cX12_count 128 = .ok (.ireturn, 1) := by decide +kernel
theorem dX12_count_129 : decode cX12_count 129 = .ok (.aload_n 0, 1) := by decide +kernel
theorem dX12_count_130 : decode cX12_count 130 = .ok (.getfield 53, 3) := by decide +kernel
theorem dX12_count_133 : decode cX12_count 133 = .ok (.getfield 114, 3) := by decide +kernel
theorem dX12_count_136 : decode cX12_count 136 = .ok (.getfield 178, 3) := by decide +kernel
theorem dX12_count_139 : decode cX12_count 139 = .ok (.ireturn, 1) := by decide +kernel
theorem dX12_count_140 : decode cX12_count 140 = .ok (.aload_n 0, 1) := by decide +kernel
theorem dX12_count_141 : decode cX12_count 141 = .ok (.getfield 53, 3) := by decide +kernel
theorem dX12_count_144 : decode cX12_count 144 = .ok (.getfield 114, 3) := by decide +kernel
theorem dX12_count_147 : decode cX12_count 147 = .ok (.getfield 222, 3) := by decide +kernel
theorem dX12_count_150 : decode cX12_count 150 = .ok (.ireturn, 1) := by decide +kernel
theorem dX12_count_151 : decode cX12_count 151 = .ok (.aload_n 0, 1) := by decide +kernel
theorem dX12_count_152 : decode cX12_count 152 = .ok (.getfield 53, 3) := by decide +kernel
theorem dX12_count_155 : decode cX12_count 155 = .ok (.getfield 114, 3) := by decide +kernel
theorem dX12_count_158 : decode cX12_count 158 = .ok (.getfield 219, 3) := by decide +kernel
theorem dX12_count_161 : decode cX12_count 161 = .ok (.ireturn, 1) := by decide +kernel
theorem dX12_count_162 : decode cX12_count 162 = .ok (.aload_n 0, 1) := by decide +kernel
theorem dX12_count_163 : decode cX12_count 163 = .ok (.getfield 53, 3) := by decide +kernel
theorem dX12_count_166 : decode cX12_count 166 = .ok (.getfield 114, 3) := by decide +kernel
theorem dX12_count_169 : decode cX12_count 169 = .ok (.invokevirtual 305, 3) := by decide +kernel
theorem dX12_count_172 : decode cX12_count 172 = .ok (.ireturn, 1) := by decide +kernel
theorem dX12_count_173 : decode cX12_count 173 = .ok (.aload_n 0, 1) := by decide +kernel
theorem dX12_count_174 : decode cX12_count 174 = .ok (.getfield 53, 3) := by decide +kernel
theorem dX12_count_177 : decode cX12_count 177 = .ok (.getfield 270, 3) := by decide +kernel
theorem dX12_count_180 : decode cX12_count 180 = .ok (.ireturn, 1) := by decide +kernel
theorem dX12_count_181 : decode cX12_count 181 = .ok (.aload_n 0, 1) := by decide +kernel
theorem dX12_count_182 : decode cX12_count 182 = .ok (.getfield 53, 3) := by decide +kernel
theorem dX12_count_185 : decode cX12_count 185 = .ok (.getfield 181, 3) := by decide +kernel
theorem dX12_count_188 : decode cX12_count 188 = .ok (.getfield 209, 3) := by decide +kernel
theorem dX12_count_191 : decode cX12_count 191 = .ok (.ireturn, 1) := by decide +kernel
theorem dX12_count_192 : decode cX12_count 192 = .ok (.aload_n 0, 1) := by decide +kernel
theorem dX12_count_193 : decode cX12_count 193 = .ok (.getfield 53, 3) := by decide +kernel
theorem dX12_count_196 : decode cX12_count 196 = .ok (.getfield 293, 3) := by decide +kernel
theorem dX12_count_199 : decode cX12_count 199 = .ok (.ireturn, 1) := by decide +kernel
theorem dX12_count_200 : decode cX12_count 200 = .ok (.aload_n 0, 1) := by decide +kernel
theorem dX12_count_201 : decode cX12_count 201 = .ok (.getfield 16, 3) := by decide +kernel
theorem dX12_count_204 : decode cX12_count 204 = .ok (.getfield 81, 3) := by decide +kernel
theorem dX12_count_207 : decode cX12_count 207 = .ok (.ireturn, 1) := by decide +kernel
theorem dX12_count_208 : decode cX12_count 208 = .ok (.iconst (-1), 1) := by decide +kernel
theorem dX12_count_209 : decode cX12_count 209 = .ok (.ireturn, 1) := by decide +kernel
theorem dX12_image_0 : decode cX12_image 0 = .ok (.iload_n 1, 1) := by decide +kernel
theorem dX12_image_1 : decode cX12_image 1 = .ok (.iconst 0, 1) := by decide +kernel
theorem dX12_image_2 : decode cX12_image 2 = .ok (.iconst 3, 1) := by decide +kernel
theorem dX12_image_3 : decode cX12_image 3 = .ok (.invokestatic 198, 3) := by decide +kernel
theorem dX12_image_6 : decode cX12_image 6 = .ok (.ifCond .ne 5, 3) := by decide +kernel
theorem dX12_image_9 : decode cX12_image 9 = .ok (.iconst (-1), 1) := by decide +kernel
theorem dX12_image_10 : decode cX12_image 10 = .ok (.ireturn, 1) := by decide +kernel
theorem dX12_image_11 : decode cX12_image 11 = .ok (.aload_n 0, 1) := by decide +kernel
theorem dX12_image_12 : decode cX12_image 12 = .ok (.getfield 57, 3) := by decide +kernel
theorem dX12_image_15 : decode cX12_image 15 = .ok (.iload_n 1, 1) := by decide +kernel
theorem dX12_image_16 : decode cX12_image 16 = .ok (.aaload, 1) := by decide +kernel
theorem dX12_image_17 : decode cX12_image 17 = .ok (.astore_n 2, 1) := by decide +kernel
theorem dX12_image_18 : decode cX12_image 18 = .ok (.aload_n 2, 1) := by decide +kernel
theorem dX12_image_19 : decode cX12_image 19 = .ok (.ifnonnull 18, 3) := by decide +kernel
theorem dX12_image_22 : decode cX12_image 22 = .ok (.new 10, 3) := by decide +kernel
theorem dX12_image_25 : decode cX12_image 25 = .ok (.dup, 1) := by decide +kernel
theorem dX12_image_26 : decode cX12_image 26 = .ok (.invokespecial 12, 3) := by decide +kernel
theorem dX12_image_29 : decode cX12_image 29 = .ok (.astore_n 2, 1) := by decide +kernel
theorem dX12_image_30 : decode cX12_image 30 = .ok (.aload_n 0, 1) := by decide +kernel
theorem dX12_image_31 : decode cX12_image 31 = .ok (.getfield 57, 3) := by decide +kernel
theorem dX12_image_34 : decode cX12_image 34 = .ok (.iload_n 1, 1) := by decide +kernel
theorem dX12_image_35 : decode cX12_image 35 = .ok (.aload_n 2, 1) := by decide +kernel
theorem dX12_image_36 : decode cX12_image 36 = .ok (.aastore, 1) := by decide +kernel
theorem dX12_image_37 : decode cX12_image 37 = .ok (.aload_n 2, 1) := by decide +kernel
theorem dX12_image_38 : decode cX12_image 38 = .ok (.aload_n 0, 1) := by decide +kernel
theorem dX12_image_39 : decode cX12_image 39 = .ok (.getfield 53, 3) := by decide +kernel
theorem dX12_image_42 : decode cX12_image 42 = .ok (.invokevirtual 309, 3) := by decide +kernel
theorem dX12_image_45 : decode cX12_image 45 = .ok (.aload_n 0, 1) := by decide +kernel
theorem dX12_image_46 : decode cX12_image 46 = .ok (.getfield 53, 3) := by decide +kernel
theorem dX12_image_49 : decode cX12_image 49 = .ok (.getfield 114, 3) := by decide +kernel
theorem dX12_image_52 : decode cX12_image 52 = .ok (.getfield 178, 3) := by decide +kernel
theorem dX12_image_55 : decode cX12_image 55 = .ok (.ireturn, 1) := by decide +kernel
theorem dX12_back_0 : decode cX12_back 0 = .ok (.iload_n 1, 1) := by decide +kernel
theorem dX12_back_1 : decode cX12_back 1 = .ok (.iconst 0, 1) := by decide +kernel
theorem dX12_back_2 : decode cX12_back 2 = .ok (.iconst 3, 1) := by decide +kernel
theorem dX12_back_3 : decode cX12_back 3 = .ok (.invokestatic 198, 3) := by decide +kernel
theorem dX12_back_6 : decode cX12_back 6 = .ok (.ifCond .ne 5, 3) := by decide +kernel
theorem dX12_back_9 : decode cX12_back 9 = .ok (.iconst (-1), 1) := by decide +kernel
theorem dX12_back_10 : decode cX12_back 10 = .ok (.ireturn, 1) := by decide +kernel
theorem dX12_back_11 : decode cX12_back 11 = .ok (.aload_n 0, 1) := by decide +kernel
theorem dX12_back_12 : decode cX12_back 12 = .ok (.getfield 57, 3) := by decide +kernel
theorem dX12_back_15 : decode cX12_back 15 = .ok (.iload_n 1, 1) := by decide +kernel
theorem dX12_back_16 : decode cX12_back 16 = .ok (.aaload, 1) := by decide +kernel
theorem dX12_back_17 : decode cX12_back 17 = .ok (.astore_n 2, 1) := by decide +kernel
theorem dX12_back_18 : decode cX12_back 18 = .ok (.aload_n 2, 1) := by decide +kernel
theorem dX12_back_19 : decode cX12_back 19 = .ok (.ifnonnull 5, 3) := by decide +kernel
theorem dX12_back_22 : decode cX12_back 22 = .ok (.iconst (-1), 1) := by decide +kernel
theorem dX12_back_23 : decode cX12_back 23 = .ok (.ireturn, 1) := by decide +kernel
theorem dX12_back_24 : decode cX12_back 24 = .ok (.aload_n 0, 1) := by decide +kernel
theorem dX12_back_25 : decode cX12_back 25 = .ok (.getfield 53, 3) := by decide +kernel
theorem dX12_back_28 : decode cX12_back 28 = .ok (.aload_n 2, 1) := by decide +kernel
theorem dX12_back_29 : decode cX12_back 29 = .ok (.invokevirtual 309, 3) := by decide +kernel
theorem dX12_back_32 : decode cX12_back 32 = .ok (.aload_n 0, 1) := by decide +kernel
theorem dX12_back_33 : decode cX12_back 33 = .ok (.getfield 53, 3) := by decide +kernel
theorem dX12_back_36 : decode cX12_back 36 = .ok (.getfield 114, 3) := by decide +kernel
theorem dX12_back_39 : decode cX12_back 39 = .ok (.getfield 178, 3) := by decide +kernel
theorem dX12_back_42 : decode cX12_back 42 = .ok (.ireturn, 1) := by decide +kernel
theorem dX12_hasTown_0 : decode cX12_hasTown 0 = .ok (.aload_n 0, 1) := by decide +kernel
theorem dX12_hasTown_1 : decode cX12_hasTown 1 = .ok (.getfield 53, 3) := by decide +kernel
theorem dX12_hasTown_4 : decode cX12_hasTown 4 = .ok (.getfield 127, 3) := by decide +kernel
theorem dX12_hasTown_7 : decode cX12_hasTown 7 = .ok (.getfield 296, 3) := by decide +kernel
theorem dX12_hasTown_10 : decode cX12_hasTown 10 = .ok (.ifCond .le 7, 3) := by decide +kernel
theorem dX12_hasTown_13 : decode cX12_hasTown 13 = .ok (.iconst 1, 1) := by decide +kernel
theorem dX12_hasTown_14 : decode cX12_hasTown 14 = .ok (.goto 4, 3) := by decide +kernel
theorem dX12_hasTown_17 : decode cX12_hasTown 17 = .ok (.iconst 0, 1) := by decide +kernel
theorem dX12_hasTown_18 : decode cX12_hasTown 18 = .ok (.ireturn, 1) := by decide +kernel
theorem dX12_isPlace_0 : decode cX12_isPlace 0 = .ok (.iload_n 1, 1) := by decide +kernel
theorem dX12_isPlace_1 : decode cX12_isPlace 1 = .ok (.ifCond .lt 21, 3) := by decide +kernel
theorem dX12_isPlace_4 : decode cX12_isPlace 4 = .ok (.iload_n 1, 1) := by decide +kernel
theorem dX12_isPlace_5 : decode cX12_isPlace 5 = .ok (.aload_n 0, 1) := by decide +kernel
theorem dX12_isPlace_6 : decode cX12_isPlace 6 = .ok (.getfield 53, 3) := by decide +kernel
theorem dX12_isPlace_9 : decode cX12_isPlace 9 = .ok (.getfield 127, 3) := by decide +kernel
theorem dX12_isPlace_12 : decode cX12_isPlace 12 = .ok (.getfield 296, 3) := by decide +kernel
theorem dX12_isPlace_15 : decode cX12_isPlace 15 = .ok (.if_icmp .ge 7, 3) := by decide +kernel
theorem dX12_isPlace_18 : decode cX12_isPlace 18 = .ok (.iconst 1, 1) := by decide +kernel
theorem dX12_isPlace_19 : decode cX12_isPlace 19 = .ok (.goto 4, 3) := by decide +kernel
theorem dX12_isPlace_22 : decode cX12_isPlace 22 = .ok (.iconst 0, 1) := by decide +kernel
theorem dX12_isPlace_23 : decode cX12_isPlace 23 = .ok (.ireturn, 1) := by decide +kernel
theorem dX12_isPerson_0 : decode cX12_isPerson 0 = .ok (.iload_n 1, 1) := by decide +kernel
theorem dX12_isPerson_1 : decode cX12_isPerson 1 = .ok (.ifCond .lt 21, 3) := by decide +kernel
theorem dX12_isPerson_4 : decode cX12_isPerson 4 = .ok (.iload_n 1, 1) := by decide +kernel
theorem dX12_isPerson_5 : decode cX12_isPerson 5 = .ok (.aload_n 0, 1) := by decide +kernel
theorem dX12_isPerson_6 : decode cX12_isPerson 6 = .ok (.getfield 53, 3) := by decide +kernel
theorem dX12_isPerson_9 : decode cX12_isPerson 9 = .ok (.getfield 127, 3) := by decide +kernel
theorem dX12_isPerson_12 : decode cX12_isPerson 12 = .ok (.getfield 99, 3) := by decide +kernel
theorem dX12_isPerson_15 : decode cX12_isPerson 15 = .ok (.if_icmp .ge 7, 3) := by decide +kernel
theorem dX12_isPerson_18 : decode cX12_isPerson 18 = .ok (.iconst 1, 1) := by decide +kernel
theorem dX12_isPerson_19 : decode cX12_isPerson 19 = .ok (.goto 4, 3) := by decide +kernel
theorem dX12_isPerson_22 : decode cX12_isPerson 22 = .ok (.iconst 0, 1) := by decide +kernel
theorem dX12_isPerson_23 : decode cX12_isPerson 23 = .ok (.ireturn, 1) := by decide +kernel
theorem dX12_isStranger_0 : decode cX12_isStranger 0 = .ok (.iload_n 1, 1) := by decide +kernel
theorem dX12_isStranger_1 : decode cX12_isStranger 1 = .ok (.ifCond .lt 21, 3) := by decide +kernel
theorem dX12_isStranger_4 : decode cX12_isStranger 4 = .ok (.iload_n 1, 1) := by decide +kernel
theorem dX12_isStranger_5 : decode cX12_isStranger 5 = .ok (.aload_n 0, 1) := by decide +kernel
theorem dX12_isStranger_6 : decode cX12_isStranger 6 = .ok (.getfield 53, 3) := by decide +kernel
theorem dX12_isStranger_9 : decode cX12_isStranger 9 = .ok (.getfield 127, 3) := by decide +kernel
theorem dX12_isStranger_12 : decode cX12_isStranger 12 = .ok (.getfield 302, 3) := by decide +kernel
theorem dX12_isStranger_15 : decode cX12_isStranger 15 = .ok (.if_icmp .ge 7, 3) := by decide +kernel
theorem dX12_isStranger_18 : decode cX12_isStranger 18 = .ok (.iconst 1, 1) := by decide +kernel
theorem dX12_isStranger_19 : decode cX12_isStranger 19 = .ok (.goto 4, 3) := by decide +kernel
theorem dX12_isStranger_22 : decode cX12_isStranger 22 = .ok (.iconst 0, 1) := by decide +kernel
theorem dX12_isStranger_23 : decode cX12_isStranger 23 = .ok (.ireturn, 1) := by decide +kernel
theorem dX12_within_0 : decode cX12_within 0 = .ok (.iload_n 0, 1) := by decide +kernel
theorem dX12_within_1 : decode cX12_within 1 = .ok (.iload_n 1, 1) := by decide +kernel
theorem dX12_within_2 : decode cX12_within 2 = .ok (.if_icmp .lt 12, 3) := by decide +kernel
theorem dX12_within_5 : decode cX12_within 5 = .ok (.iload_n 0, 1) := by decide +kernel
theorem dX12_within_6 : decode cX12_within 6 = .ok (.iload_n 2, 1) := by decide +kernel
theorem dX12_within_7 : decode cX12_within 7 = .ok (.if_icmp .gt 7, 3) := by decide +kernel
theorem dX12_within_10 : decode cX12_within 10 = .ok (.iconst 1, 1) := by decide +kernel
theorem dX12_within_11 : decode cX12_within 11 = .ok (.goto 4, 3) := by decide +kernel
theorem dX12_within_14 : decode cX12_within 14 = .ok (.iconst 0, 1) := by decide +kernel
theorem dX12_within_15 : decode cX12_within 15 = .ok (.ireturn, 1) := by decide +kernel
theorem dX12_ruleNumbered_0 : decode cX12_ruleNumbered 0 = .ok (.iload_n 1, 1) := by decide +kernel
theorem dX12_ruleNumbered_1 : decode cX12_ruleNumbered 1 = .ok (.ifCond .lt 20, 3) := by decide +kernel
theorem dX12_ruleNumbered_4 : decode cX12_ruleNumbered 4 = .ok (.iload_n 1, 1) := by decide +kernel
theorem dX12_ruleNumbered_5 : decode cX12_ruleNumbered 5 = .ok (.aload_n 0, 1) := by decide +kernel
theorem dX12_ruleNumbered_6 : decode cX12_ruleNumbered 6 = .ok (.getfield 44, 3) := by decide +kernel
theorem dX12_ruleNumbered_9 : decode cX12_ruleNumbered 9 = .ok (.if_icmp .ge 12, 3) := by decide +kernel
theorem dX12_ruleNumbered_12 : decode cX12_ruleNumbered 12 = .ok (.aload_n 0, 1) := by decide +kernel
theorem dX12_ruleNumbered_13 : decode cX12_ruleNumbered 13 = .ok (.getfield 40, 3) := by decide +kernel
theorem dX12_ruleNumbered_16 : decode cX12_ruleNumbered 16 = .ok (.iload_n 1, 1) := by decide +kernel
theorem dX12_ruleNumbered_17 : decode cX12_ruleNumbered 17 = .ok (.aaload, 1) := by decide +kernel
theorem dX12_ruleNumbered_18 : decode cX12_ruleNumbered 18 = .ok (.goto 4, 3) := by decide +kernel
theorem dX12_ruleNumbered_21 : decode cX12_ruleNumbered 21 = .ok (.aconst_null, 1) := by decide +kernel
theorem dX12_ruleNumbered_22 : decode cX12_ruleNumbered 22 = .ok (.areturn, 1) := by decide +kernel
theorem dX12_windClock_0 : decode cX12_windClock 0 = .ok (.aload_n 0, 1) := by decide +kernel
theorem dX12_windClock_1 : decode cX12_windClock 1 = .ok (.getfield 61, 3) := by decide +kernel
theorem dX12_windClock_4 : decode cX12_windClock 4 = .ok (.aload_n 0, 1) := by decide +kernel
theorem dX12_windClock_5 : decode cX12_windClock 5 = .ok (.getfield 53, 3) := by decide +kernel
theorem dX12_windClock_8 : decode cX12_windClock 8 = .ok (.getfield 127, 3) := by decide +kernel
theorem dX12_windClock_11 : decode cX12_windClock 11 = .ok (.aload_n 0, 1) := by decide +kernel
theorem dX12_windClock_12 : decode cX12_windClock 12 = .ok (.aload_n 0, 1) := by decide +kernel
theorem dX12_windClock_13 : decode cX12_windClock 13 = .ok (.getfield 53, 3) := by decide +kernel
theorem dX12_windClock_16 : decode cX12_windClock 16 = .ok (.getfield 107, 3) := by decide +kernel
theorem dX12_windClock_19 : decode cX12_windClock 19 = .ok (.invokevirtual 277, 3) := by decide +kernel
theorem dX12_windClock_22 : decode cX12_windClock 22 = .ok (.aload_n 0, 1) := by decide +kernel
theorem dX12_windClock_23 : decode cX12_windClock 23 = .ok (.getfield 53, 3) := by decide +kernel
theorem dX12_windClock_26 : decode cX12_windClock 26 = .ok (.getfield 127, 3) := by decide +kernel
theorem dX12_windClock_29 : decode cX12_windClock 29 = .ok (.getfield 131, 3) := by decide +kernel
theorem dX12_windClock_32 : decode cX12_windClock 32 = .ok (.invokevirtual 313, 3) := by decide +kernel
theorem dX12_windClock_35 : decode cX12_windClock 35 = .ok (.return_, 1) := by decide +kernel
theorem dX13_init_0 : decode cX13_init 0 = .ok (.aload_n 0, 1) := by decide +kernel
theorem dX13_init_1 : decode cX13_init 1 = .ok (.invokespecial 3, 3) := by decide +kernel
theorem dX13_init_4 : decode cX13_init 4 = .ok (.aload_n 0, 1) := by decide +kernel
theorem dX13_init_5 : decode cX13_init 5 = .ok (.bipush 10, 2) := by decide +kernel
theorem dX13_init_7 : decode cX13_init 7 = .ok (.newarray .int, 2) := by decide +kernel
theorem dX13_init_9 : decode cX13_init 9 = .ok (.dup, 1) := by decide +kernel
theorem dX13_init_10 : decode cX13_init 10 = .ok (.iconst 0, 1) := by decide +kernel
theorem dX13_init_11 : decode cX13_init 11 = .ok (.iconst 0, 1) := by decide +kernel
theorem dX13_init_12 : decode cX13_init 12 = .ok (.iastore, 1) := by decide +kernel
theorem dX13_init_13 : decode cX13_init 13 = .ok (.dup, 1) := by decide +kernel
theorem dX13_init_14 : decode cX13_init 14 = .ok (.iconst 1, 1) := by decide +kernel
theorem dX13_init_15 : decode cX13_init 15 = .ok (.iconst 0, 1) := by decide +kernel
theorem dX13_init_16 : decode cX13_init 16 = .ok (.iastore, 1) := by decide +kernel
theorem dX13_init_17 : decode cX13_init 17 = .ok (.dup, 1) := by decide +kernel
theorem dX13_init_18 : decode cX13_init 18 = .ok (.iconst 2, 1) := by decide +kernel
theorem dX13_init_19 : decode cX13_init 19 = .ok (.iconst 0, 1) := by decide +kernel
theorem dX13_init_20 : decode cX13_init 20 = .ok (.iastore, 1) := by decide +kernel
theorem dX13_init_21 : decode cX13_init 21 = .ok (.dup, 1) := by decide +kernel
theorem dX13_init_22 : decode cX13_init 22 = .ok (.iconst 3, 1) := by decide +kernel
theorem dX13_init_23 : decode cX13_init 23 = .ok (.iconst 0, 1) := by decide +kernel
theorem dX13_init_24 : decode cX13_init 24 = .ok (.iastore, 1) := by decide +kernel
theorem dX13_init_25 : decode cX13_init 25 = .ok (.dup, 1) := by decide +kernel
theorem dX13_init_26 : decode cX13_init 26 = .ok (.iconst 4, 1) := by decide +kernel
theorem dX13_init_27 : decode cX13_init 27 = .ok (.iconst 0, 1) := by decide +kernel
theorem dX13_init_28 : decode cX13_init 28 = .ok (.iastore, 1) := by decide +kernel
theorem dX13_init_29 : decode cX13_init 29 = .ok (.dup, 1) := by decide +kernel
theorem dX13_init_30 : decode cX13_init 30 = .ok (.iconst 5, 1) := by decide +kernel
theorem dX13_init_31 : decode cX13_init 31 = .ok (.iconst (-1), 1) := by decide +kernel
theorem dX13_init_32 : decode cX13_init 32 = .ok (.iastore, 1) := by decide +kernel
theorem dX13_init_33 : decode cX13_init 33 = .ok (.dup, 1) := by decide +kernel
theorem dX13_init_34 : decode cX13_init 34 = .ok (.bipush 6, 2) := by decide +kernel
theorem dX13_init_36 : decode cX13_init 36 = .ok (.iconst 0, 1) := by decide +kernel
theorem dX13_init_37 : decode cX13_init 37 = .ok (.iastore, 1) := by decide +kernel
theorem dX13_init_38 : decode cX13_init 38 = .ok (.dup, 1) := by decide +kernel
theorem dX13_init_39 : decode cX13_init 39 = .ok (.bipush 7, 2) := by decide +kernel
theorem dX13_init_41 : decode cX13_init 41 = .ok (.iconst 0, 1) := by decide +kernel
theorem dX13_init_42 : decode cX13_init 42 = .ok (.iastore, 1) := by decide +kernel
theorem dX13_init_43 : decode cX13_init 43 = .ok (.dup, 1) := by decide +kernel
theorem dX13_init_44 : decode cX13_init 44 = .ok (.bipush 8, 2) := by decide +kernel
theorem dX13_init_46 : decode cX13_init 46 = .ok (.iconst 0, 1) := by decide +kernel
theorem dX13_init_47 : decode cX13_init 47 = .ok (.iastore, 1) := by decide +kernel
theorem dX13_init_48 : decode cX13_init 48 = .ok (.dup, 1) := by decide +kernel
theorem dX13_init_49 : decode cX13_init 49 = .ok (.bipush 9, 2) := by decide +kernel
theorem dX13_init_51 : decode cX13_init 51 = .ok (.iconst (-1), 1) := by decide +kernel
theorem dX13_init_52 : decode cX13_init 52 = .ok (.iastore, 1) := by decide +kernel
theorem dX13_init_53 : decode cX13_init 53 = .ok (.putfield 9, 3) := by decide +kernel
theorem dX13_init_56 : decode cX13_init 56 = .ok (.aload_n 0, 1) := by decide +kernel
theorem dX13_init_57 : decode cX13_init 57 = .ok (.bipush 6, 2) := by decide +kernel
theorem dX13_init_59 : decode cX13_init 59 = .ok (.newarray .int, 2) := by decide +kernel
theorem dX13_init_61 : decode cX13_init 61 = .ok (.putfield 13, 3) := by decide +kernel
theorem dX13_init_64 : decode cX13_init 64 = .ok (.aload_n 0, 1) := by decide +kernel
theorem dX13_init_65 : decode cX13_init 65 = .ok (.bipush 6, 2) := by decide +kernel
theorem dX13_init_67 : decode cX13_init 67 = .ok (.newarray .int, 2) := by decide +kernel
theorem dX13_init_69 : decode cX13_init 69 = .ok (.putfield 16, 3) := by decide +kernel
theorem dX13_init_72 : decode cX13_init 72 = .ok (.aload_n 0, 1) := by decide +kernel
theorem dX13_init_73 : decode cX13_init 73 = .ok (.bipush 6, 2) := by decide +kernel
theorem dX13_init_75 : decode cX13_init 75 = .ok (.newarray .int, 2) := by decide +kernel
theorem dX13_init_77 : decode cX13_init 77 = .ok (.putfield 19, 3) := by decide +kernel
theorem dX13_init_80 : decode cX13_init 80 = .ok (.aload_n 0, 1) := by decide +kernel
theorem dX13_init_81 : decode cX13_init 81 = .ok (.bipush 6, 2) := by decide +kernel
theorem dX13_init_83 : decode cX13_init 83 = .ok (.newarray .int, 2) := by decide +kernel
theorem dX13_init_85 : decode cX13_init 85 = .ok (.putfield 22, 3) := by decide +kernel
theorem dX13_init_88 : decode cX13_init 88 = .ok (.aload_n 0, 1) := by decide +kernel
theorem dX13_init_89 : decode cX13_init 89 = .ok (.bipush 6, 2) := by decide +kernel
theorem dX13_init_91 : decode cX13_init 91 = .ok (.newarray .int, 2) := by decide +kernel
theorem dX13_init_93 : decode cX13_init 93 = .ok (.putfield 25, 3) := by decide +kernel
theorem dX13_init_96 : decode cX13_init 96 = .ok (.aload_n 0, 1) := by decide +kernel
theorem dX13_init_97 : decode cX13_init 97 = .ok (.iconst 5, 1) := by decide +kernel
theorem dX13_init_98 : decode cX13_init 98 = .ok (.newarray .int, 2) := by decide +kernel
theorem dX13_init_100 : decode cX13_init 100 = .ok (.putfield 28, 3) := by decide +kernel
theorem dX13_init_103 : decode cX13_init 103 = .ok (.aload_n 0, 1) := by decide +kernel
theorem dX13_init_104 : decode cX13_init 104 = .ok (.bipush 30, 2) := by decide +kernel
theorem dX13_init_106 : decode cX13_init 106 = .ok (.newarray .int, 2) := by decide +kernel
theorem dX13_init_108 : decode cX13_init 108 = .ok (.putfield 31, 3) := by decide +kernel
theorem dX13_init_111 : decode cX13_init 111 = .ok (.aload_n 0, 1) := by decide +kernel
theorem dX13_init_112 : decode cX13_init 112 = .ok (.bipush 8, 2) := by decide +kernel
theorem dX13_init_114 : decode cX13_init 114 = .ok (.newarray .int, 2) := by decide +kernel
theorem dX13_init_116 : decode cX13_init 116 = .ok (.putfield 34, 3) := by decide +kernel
theorem dX13_init_119 : decode cX13_init 119 = .ok (.aload_n 0, 1) := by decide +kernel
theorem dX13_init_120 : decode cX13_init 120 = .ok (.bipush 6, 2) := by decide +kernel
theorem dX13_init_122 : decode cX13_init 122 = .ok (.newarray .int, 2) := by decide +kernel
theorem dX13_init_124 : decode cX13_init 124 = .ok (.putfield 37, 3) := by decide +kernel
theorem dX13_init_127 : decode cX13_init 127 = .ok (.aload_n 0, 1) := by decide +kernel
theorem dX13_init_128 : decode cX13_init 128 = .ok (.iconst 5, 1) := by decide +kernel
theorem dX13_init_129 : decode cX13_init 129 = .ok (.newarray .int, 2) := by decide +kernel
theorem dX13_init_131 : decode cX13_init 131 = .ok (.putfield 40, 3) := by decide +kernel
theorem dX13_init_134 : decode cX13_init 134 = .ok (.aload_n 0, 1) := by decide +kernel
theorem dX13_init_135 : decode cX13_init 135 = .ok (.iconst 5, 1) := by decide +kernel
theorem dX13_init_136 : decode cX13_init 136 = .ok (.newarray .int, 2) := by decide +kernel
theorem dX13_init_138 : decode cX13_init 138 = .ok (.putfield 43, 3) := by decide +kernel
theorem dX13_init_141 : decode cX13_init 141 = .ok (.aload_n 0, 1) := by decide +kernel
theorem dX13_init_142 : decode cX13_init 142 = .ok (.iconst 5, 1) := by decide +kernel
theorem dX13_init_143 : decode cX13_init 143 = .ok (.newarray .int, 2) := by decide +kernel
theorem dX13_init_145 : decode cX13_init 145 = .ok (.putfield 46, 3) := by decide +kernel
theorem dX13_init_148 : decode cX13_init 148 = .ok (.aload_n 0, 1) := by decide +kernel
theorem dX13_init_149 : decode cX13_init 149 = .ok (.bipush 10, 2) := by decide +kernel
theorem dX13_init_151 : decode cX13_init 151 = .ok (.newarray .int, 2) := by decide +kernel
theorem dX13_init_153 : decode cX13_init 153 = .ok (.putfield 49, 3) := by decide +kernel
theorem dX13_init_156 : decode cX13_init 156 = .ok (.aload_n 0, 1) := by decide +kernel
theorem dX13_init_157 : decode cX13_init 157 = .ok (.bipush 10, 2) := by decide +kernel
theorem dX13_init_159 : decode cX13_init 159 = .ok (.newarray .int, 2) := by decide +kernel
theorem dX13_init_161 : decode cX13_init 161 = .ok (.putfield 52, 3) := by decide +kernel
theorem dX13_init_164 : decode cX13_init 164 = .ok (.aload_n 0, 1) := by decide +kernel
theorem dX13_init_165 : decode cX13_init 165 = .ok (.bipush 10, 2) := by decide +kernel
theorem dX13_init_167 : decode cX13_init 167 = .ok (.newarray .int, 2) := by decide +kernel
theorem dX13_init_169 : decode cX13_init 169 = .ok (.putfield 55, 3) := by decide +kernel
theorem dX13_init_172 : decode cX13_init 172 = .ok (.aload_n 0, 1) := by decide +kernel
theorem dX13_init_173 : decode cX13_init 173 = .ok (.bipush 6, 2) := by decide +kernel
theorem dX13_init_175 : decode cX13_init 175 = .ok (.newarray .int, 2) := by decide +kernel
theorem dX13_init_177 : decode cX13_init 177 = .ok (.putfield 58, 3) := by decide +kernel
theorem dX13_init_180 : decode cX13_init 180 = .ok (.aload_n 0, 1) := by decide +kernel
theorem dX13_init_181 : decode cX13_init 181 = .ok (.bipush 6, 2) := by decide +kernel
theorem dX13_init_183 : decode cX13_init 183 = .ok (.newarray .int, 2) := by decide +kernel
theorem dX13_init_185 : decode cX13_init 185 = .ok (.putfield 61, 3) := by decide +kernel
theorem dX13_init_188 : decode cX13_init 188 = .ok (.aload_n 0, 1) := by decide +kernel
theorem dX13_init_189 : decode cX13_init 189 = .ok (.bipush 8, 2) := by decide +kernel
theorem dX13_init_191 : decode cX13_init 191 = .ok (.newarray .int, 2) := by decide +kernel
theorem dX13_init_193 : decode cX13_init 193 = .ok (.putfield 64, 3) := by decide +kernel
theorem dX13_init_196 : decode cX13_init 196 = .ok (.aload_n 0, 1) := by decide +kernel
theorem dX13_init_197 : decode cX13_init 197 = .ok (.iconst 4, 1) := by decide +kernel
theorem dX13_init_198 : decode cX13_init 198 = .ok (.newarray .int, 2) := by decide +kernel
theorem dX13_init_200 : decode cX13_init 200 = .ok (.putfield 67, 3) := by decide +kernel
theorem dX13_init_203 : decode cX13_init 203 = .ok (.aload_n 0, 1) := by decide +kernel
theorem dX13_init_204 : decode cX13_init 204 = .ok (.bipush 6, 2) := by decide +kernel
theorem dX13_init_206 : decode cX13_init 206 = .ok (.newarray .int, 2) := by decide +kernel
theorem dX13_init_208 : decode cX13_init 208 = .ok (.putfield 70, 3) := by decide +kernel
theorem dX13_init_211 : decode cX13_init 211 = .ok (.aload_n 0, 1) := by decide +kernel
theorem dX13_init_212 : decode cX13_init 212 = .ok (.bipush 6, 2) := by decide +kernel
theorem dX13_init_214 : decode cX13_init 214 = .ok (.newarray .int, 2) := by decide +kernel
theorem dX13_init_216 : decode cX13_init 216 = .ok (.putfield 73, 3) := by decide +kernel
theorem dX13_init_219 : decode cX13_init 219 = .ok (.aload_n 0, 1) := by decide +kernel
theorem dX13_init_220 : decode cX13_init 220 = .ok (.bipush 6, 2) := by decide +kernel
theorem dX13_init_222 : decode cX13_init 222 = .ok (.newarray .int, 2) := by decide +kernel
theorem dX13_init_224 : decode cX13_init 224 = .ok (.putfield 76, 3) := by decide +kernel
theorem dX13_init_227 : decode cX13_init 227 = .ok (.aload_n 0, 1) := by decide +kernel
theorem dX13_init_228 : decode cX13_init 228 = .ok (.iconst 5, 1) := by decide +kernel
theorem dX13_init_229 : decode cX13_init 229 = .ok (.newarray .int, 2) := by decide +kernel
theorem dX13_init_231 : decode cX13_init 231 = .ok (.putfield 79, 3) := by decide +kernel
theorem dX13_init_234 : decode cX13_init 234 = .ok (.aload_n 0, 1) := by decide +kernel
theorem dX13_init_235 : decode cX13_init 235 = .ok (.iconst 5, 1) := by decide +kernel
theorem dX13_init_236 : decode cX13_init 236 = .ok (.newarray .int, 2) := by decide +kernel
theorem dX13_init_238 : decode cX13_init 238 = .ok (.putfield 82, 3) := by decide +kernel
theorem dX13_init_241 : decode cX13_init 241 = .ok (.aload_n 0, 1) := by decide +kernel
theorem dX13_init_242 : decode cX13_init 242 = .ok (.iconst 5, 1) := by decide +kernel
theorem dX13_init_243 : decode cX13_init 243 = .ok (.newarray .int, 2) := by decide +kernel
theorem dX13_init_245 : decode cX13_init 245 = .ok (.putfield 85, 3) := by decide +kernel
theorem dX13_init_248 : decode cX13_init 248 = .ok (.aload_n 0, 1) := by decide +kernel
theorem dX13_init_249 : decode cX13_init 249 = .ok (.bipush 8, 2) := by decide +kernel
theorem dX13_init_251 : decode cX13_init 251 = .ok (.newarray .int, 2) := by decide +kernel
theorem dX13_init_253 : decode cX13_init 253 = .ok (.putfield 88, 3) := by decide +kernel
theorem dX13_init_256 : decode cX13_init 256 = .ok (.aload_n 0, 1) := by decide +kernel
theorem dX13_init_257 : decode cX13_init 257 = .ok (.bipush 12, 2) := by decide +kernel
theorem dX13_init_259 : decode cX13_init 259 = .ok (.putfield 91, 3) := by decide +kernel
theorem dX13_init_262 : decode cX13_init 262 = .ok (.aload_n 0, 1) := by decide +kernel
theorem dX13_init_263 : decode cX13_init 263 = .ok (.sipush 400, 3) := by decide +kernel
theorem dX13_init_266 : decode cX13_init 266 = .ok (.newarray .byte, 2) := by decide +kernel
theorem dX13_init_268 : decode cX13_init 268 = .ok (.putfield 95, 3) := by decide +kernel
theorem dX13_init_271 : decode cX13_init 271 = .ok (.aload_n 0, 1) := by decide +kernel
theorem dX13_init_272 : decode cX13_init 272 = .ok (.sipush 1800, 3) := by decide +kernel
theorem dX13_init_275 : decode cX13_init 275 = .ok (.newarray .int, 2) := by decide +kernel
theorem dX13_init_277 : decode cX13_init 277 = .ok (.putfield 99, 3) := by decide +kernel
theorem dX13_init_280 : decode cX13_init 280 = .ok (.aload_n 0, 1) := by decide +kernel
theorem dX13_init_281 : decode cX13_init 281 = .ok (.sipush 1800, 3) := by decide +kernel
theorem dX13_init_284 : decode cX13_init 284 = .ok (.newarray .int, 2) := by decide +kernel
theorem dX13_init_286 : decode cX13_init 286 = .ok (.putfield 102, 3) := by decide +kernel
theorem dX13_init_289 : decode cX13_init 289 = .ok (.aload_n 0, 1) := by decide +kernel
theorem dX13_init_290 : decode cX13_init 290 = .ok (.bipush 6, 2) := by decide +kernel
theorem dX13_init_292 : decode cX13_init 292 = .ok (.newarray .int, 2) := by decide +kernel
theorem dX13_init_294 : decode cX13_init 294 = .ok (.putfield 105, 3) := by decide +kernel
theorem dX13_init_297 : decode cX13_init 297 = .ok (.aload_n 0, 1) := by decide +kernel
theorem dX13_init_298 : decode cX13_init 298 = .ok (.bipush 72, 2) := by decide +kernel
theorem dX13_init_300 : decode cX13_init 300 = .ok (.newarray .int, 2) := by decide +kernel
theorem dX13_init_302 : decode cX13_init 302 = .ok (.putfield 108, 3) := by decide +kernel
theorem dX13_init_305 : decode cX13_init 305 = .ok (.aload_n 0, 1) := by decide +kernel
theorem dX13_init_306 : decode cX13_init 306 = .ok (.bipush 72, 2) := by decide +kernel
theorem dX13_init_308 : decode cX13_init 308 = .ok (.newarray .int, 2) := by decide +kernel
theorem dX13_init_310 : decode cX13_init 310 = .ok (.putfield 111, 3) := by decide +kernel
theorem dX13_init_313 : decode cX13_init 313 = .ok (.aload_n 0, 1) := by decide +kernel
theorem dX13_init_314 : decode cX13_init 314 = .ok (.bipush 72, 2) := by decide +kernel
theorem dX13_init_316 : decode cX13_init 316 = .ok (.newarray .int, 2) := by decide +kernel
theorem dX13_init_318 : decode cX13_init 318 = .ok (.putfield 114, 3) := by decide +kernel
theorem dX13_init_321 : decode cX13_init 321 = .ok (.aload_n 0, 1) := by decide +kernel
theorem dX13_init_322 : decode cX13_init 322 = .ok (.sipush 402, 3) := by decide +kernel
theorem dX13_init_325 : decode cX13_init 325 = .ok (.newarray .int, 2) := by decide +kernel
theorem dX13_init_327 : decode cX13_init 327 = .ok (.putfield 117, 3) := by decide +kernel
theorem dX13_init_330 : decode cX13_init 330 = .ok (.aload_n 0, 1) := by decide +kernel
theorem dX13_init_331 : decode cX13_init 331 = .ok (.bipush 12, 2) := by decide +kernel
theorem dX13_init_333 : decode cX13_init 333 = .ok (.newarray .long, 2) := by decide +kernel
theorem dX13_init_335 : decode cX13_init 335 = .ok (.putfield 120, 3) := by decide +kernel
theorem dX13_init_338 : decode cX13_init 338 = .ok (.aload_n 0, 1) := by decide +kernel
theorem dX13_init_339 : decode cX13_init 339 = .ok (.sipush 300, 3) := by decide +kernel
theorem dX13_init_342 : decode cX13_init 342 = .ok (.newarray .long, 2) := by decide +kernel
theorem dX13_init_344 : decode cX13_init 344 = .ok (.putfield 124, 3) := by decide +kernel
theorem dX13_init_347 : decode cX13_init 347 = .ok (.aload_n 0, 1) := by decide +kernel
theorem dX13_init_348 : decode cX13_init 348 = .ok (.iconst 5, 1) := by decide +kernel
theorem dX13_init_349 : decode cX13_init 349 = .ok (.newarray .int, 2) := by decide +kernel
theorem dX13_init_351 : decode cX13_init 351 = .ok (.putfield 127, 3) := by decide +kernel
theorem dX13_init_354 : decode cX13_init 354 = .ok (.aload_n 0, 1) := by decide +kernel
theorem dX13_init_355 : decode cX13_init 355 = .ok (.sipush 1520, 3) := by decide +kernel
theorem dX13_init_358 : decode cX13_init 358 = .ok (.newarray .int, 2) := by decide +kernel
theorem dX13_init_360 : decode cX13_init 360 = .ok (.putfield 130, 3) := by decide +kernel
theorem dX13_init_363 : decode cX13_init 363 = .ok (.aload_n 0, 1) := by decide +kernel
theorem dX13_init_364 : decode cX13_init 364 = .ok (.iconst 1, 1) := by decide +kernel
theorem dX13_init_365 : decode cX13_init 365 = .ok (.newarray .int, 2) := by decide +kernel
theorem dX13_init_367 : decode cX13_init 367 = .ok (.putfield 133, 3) := by decide +kernel
theorem dX13_init_370 : decode cX13_init 370 = .ok (.aload_n 0, 1) := by decide +kernel
theorem dX13_init_371 : decode cX13_init 371 = .ok (.sipush 512, 3) := by decide +kernel
theorem dX13_init_374 : decode cX13_init 374 = .ok (.newarray .int, 2) := by decide +kernel
theorem dX13_init_376 : decode cX13_init 376 = .ok (.putfield 136, 3) := by decide +kernel
theorem dX13_init_379 : decode cX13_init 379 = .ok (.aload_n 0, 1) := by decide +kernel
theorem dX13_init_380 : decode cX13_init 380 = .ok (.bipush 64, 2) := by decide +kernel
theorem dX13_init_382 : decode cX13_init 382 = .ok (.newarray .int, 2) := by decide +kernel
theorem dX13_init_384 : decode cX13_init 384 = .ok (.putfield 139, 3) := by decide +kernel
theorem dX13_init_387 : decode cX13_init 387 = .ok (.aload_n 0, 1) := by decide +kernel
theorem dX13_init_388 : decode cX13_init 388 = .ok (.bipush 64, 2) := by decide +kernel
theorem dX13_init_390 : decode cX13_init 390 = .ok (.newarray .int, 2) := by decide +kernel
theorem dX13_init_392 : decode cX13_init 392 = .ok (.putfield 142, 3) := by decide +kernel
theorem dX13_init_395 : decode cX13_init 395 = .ok (.aload_n 0, 1) := by decide +kernel
theorem dX13_init_396 : decode cX13_init 396 = .ok (.sipush 305, 3) := by decide +kernel
theorem dX13_init_399 : decode cX13_init 399 = .ok (.newarray .int, 2) := by decide +kernel
theorem dX13_init_401 : decode cX13_init 401 = .ok (.putfield 145, 3) := by decide +kernel
theorem dX13_init_404 : decode cX13_init 404 = .ok (.aload_n 0, 1) := by decide +kernel
theorem dX13_init_405 : decode cX13_init 405 = .ok (.bipush 35, 2) := by decide +kernel
theorem dX13_init_407 : decode cX13_init 407 = .ok (.newarray .int, 2) := by decide +kernel
theorem dX13_init_409 : decode cX13_init 409 = .ok (.putfield 148, 3) := by decide +kernel
theorem dX13_init_412 : decode cX13_init 412 = .ok (.aload_n 0, 1) := by decide +kernel
theorem dX13_init_413 : decode cX13_init 413 = .ok (.sipush 9500, 3) := by decide +kernel
theorem dX13_init_416 : decode cX13_init 416 = .ok (.newarray .int, 2) := by decide +kernel
theorem dX13_init_418 : decode cX13_init 418 = .ok (.putfield 151, 3) := by decide +kernel
theorem dX13_init_421 : decode cX13_init 421 = .ok (.aload_n 0, 1) := by decide +kernel
theorem dX13_init_422 : decode cX13_init 422 = .ok (.iconst 4, 1) := by decide +kernel
theorem dX13_init_423 : decode cX13_init 423 = .ok (.newarray .boolean, 2) := by decide +kernel
theorem dX13_init_425 : decode cX13_init 425 = .ok (.putfield 154, 3) := by decide +kernel
theorem dX13_init_428 : decode cX13_init 428 = .ok (.return_, 1) := by decide +kernel
theorem dX13_in_0 : decode cX13_in 0 = .ok (.lload_n 0, 1) := by decide +kernel
theorem dX13_in_1 : decode cX13_in 1 = .ok (.lload_n 2, 1) := by decide +kernel
theorem dX13_in_2 : decode cX13_in 2 = .ok (.lcmp, 1) := by decide +kernel
theorem dX13_in_3 : decode cX13_in 3 = .ok (.ifCond .lt 14, 3) := by decide +kernel
theorem dX13_in_6 : decode cX13_in 6 = .ok (.lload_n 0, 1) := by decide +kernel
theorem dX13_in_7 : decode cX13_in 7 = .ok (.lload 4, 2) := by decide +kernel
theorem dX13_in_9 : decode cX13_in 9 = .ok (.lcmp, 1) := by decide +kernel
theorem dX13_in_10 : decode cX13_in 10 = .ok (.ifCond .gt 7, 3) := by decide +kernel
theorem dX13_in_13 : decode cX13_in 13 = .ok (.iconst 1, 1) := by decide +kernel
theorem dX13_in_14 : decode cX13_in 14 = .ok (.goto 4, 3) := by decide +kernel
theorem dX13_in_17 : decode cX13_in 17 = .ok (.iconst 0, 1) := by decide +kernel
theorem dX13_in_18 : decode cX13_in 18 = .ok (.ireturn, 1) := by decide +kernel
theorem dX13_has_0 : decode cX13_has 0 = .ok (.iload_n 0, 1) := by decide +kernel
theorem dX13_has_1 : decode cX13_has 1 = .ok (.iload_n 1, 1) := by decide +kernel
theorem dX13_has_2 : decode cX13_has 2 = .ok (.ishr, 1) := by decide +kernel
theorem dX13_has_3 : decode cX13_has 3 = .ok (.iconst 1, 1) := by decide +kernel
theorem dX13_has_4 : decode cX13_has 4 = .ok (.iand, 1) := by decide +kernel
theorem dX13_has_5 : decode cX13_has 5 = .ok (.iconst 1, 1) := by decide +kernel
theorem dX13_has_6 : decode cX13_has 6 = .ok (.if_icmp .ne 7, 3) := by decide +kernel
theorem dX13_has_9 : decode cX13_has 9 = .ok (.iconst 1, 1) := by decide +kernel
theorem dX13_has_10 : decode cX13_has 10 = .ok (.goto 4, 3) := by decide +kernel
theorem dX13_has_13 : decode cX13_has 13 = .ok (.iconst 0, 1) := by decide +kernel
theorem dX13_has_14 : decode cX13_has 14 = .ok (.ireturn, 1) := by decide +kernel
theorem dX13_isTown_0 : decode cX13_isTown 0 = .ok (.aload_n 0, 1) := by decide +kernel
theorem dX13_isTown_1 : decode cX13_isTown 1 = .ok (.getfield 9, 3) := by decide +kernel
theorem dX13_isTown_4 : decode cX13_isTown 4 = .ok (.iconst 0, 1) := by decide +kernel
theorem dX13_isTown_5 : decode cX13_isTown 5 = .ok (.iaload, 1) := by decide +kernel
theorem dX13_isTown_6 : decode cX13_isTown 6 = .ok (.ifCond .le 7, 3) := by decide +kernel
theorem dX13_isTown_9 : decode cX13_isTown 9 = .ok (.iconst 1, 1) := by decide +kernel
theorem dX13_isTown_10 : decode cX13_isTown 10 = .ok (.goto 4, 3) := by decide +kernel
theorem dX13_isTown_13 : decode cX13_isTown 13 = .ok (.iconst 0, 1) := by decide +kernel
theorem dX13_isTown_14 : decode cX13_isTown 14 = .ok (.ireturn, 1) := by decide +kernel
theorem dX13_isPlace_0 : decode cX13_isPlace 0 = .ok (.iload_n 1, 1) := by decide +kernel
theorem dX13_isPlace_1 : decode cX13_isPlace 1 = .ok (.i2l, 1) := by decide +kernel
theorem dX13_isPlace_2 : decode cX13_isPlace 2 = .ok (.lconst 0, 1) := by decide +kernel
theorem dX13_isPlace_3 : decode cX13_isPlace 3 = .ok (.aload_n 0, 1) := by decide +kernel
theorem dX13_isPlace_4 : decode cX13_isPlace 4 = .ok (.getfield 9, 3) := by decide +kernel
theorem dX13_isPlace_7 : decode cX13_isPlace 7 = .ok (.iconst 0, 1) := by decide +kernel
theorem dX13_isPlace_8 : decode cX13_isPlace 8 = .ok (.iaload, 1) := by decide +kernel
theorem dX13_isPlace_9 : decode cX13_isPlace 9 = .ok (.iconst 1, 1) := by decide +kernel
theorem dX13_isPlace_10 : decode cX13_isPlace 10 = .ok (.isub, 1) := by decide +kernel
theorem dX13_isPlace_11 : decode cX13_isPlace 11 = .ok (.i2l, 1) := by decide +kernel
theorem dX13_isPlace_12 : decode cX13_isPlace 12 = .ok (.invokestatic 161, 3) := by decide +kernel
theorem dX13_isPlace_15 : decode cX13_isPlace 15 = .ok (.ireturn, 1) := by decide +kernel
theorem dX13_isPerson_0 : decode cX13_isPerson 0 = .ok (.iload_n 1, 1) := by decide +kernel
theorem dX13_isPerson_1 : decode cX13_isPerson 1 = .ok (.i2l, 1) := by decide +kernel
theorem dX13_isPerson_2 : decode cX13_isPerson 2 = .ok (.lconst 0, 1) := by decide +kernel
theorem dX13_isPerson_3 : decode cX13_isPerson 3 = .ok (.aload_n 0, 1) := by decide +kernel
theorem dX13_isPerson_4 : decode cX13_isPerson 4 = .ok (.getfield 9, 3) := by decide +kernel
theorem dX13_isPerson_7 : decode cX13_isPerson 7 = .ok (.iconst 2, 1) := by decide +kernel
theorem dX13_isPerson_8 : decode cX13_isPerson 8 = .ok (.iaload, 1) := by decide +kernel
theorem dX13_isPerson_9 : decode cX13_isPerson 9 = .ok (.iconst 1, 1) := by decide +kernel
theorem dX13_isPerson_10 : decode cX13_isPerson 10 = .ok (.isub, 1) := by decide +kernel
theorem dX13_isPerson_11 : decode cX13_isPerson 11 = .ok (.i2l, 1) := by decide +kernel
theorem dX13_isPerson_12 : decode cX13_isPerson 12 = .ok (.invokestatic 161, 3) := by decide +kernel
theorem dX13_isPerson_15 : decode cX13_isPerson 15 = .ok (.ireturn, 1) := by decide +kernel
theorem dX13_isStranger_0 : decode cX13_isStranger 0 = .ok (.iload_n 1, 1) := by decide +kernel
theorem dX13_isStranger_1 : decode cX13_isStranger 1 = .ok (.i2l, 1) := by decide +kernel
theorem dX13_isStranger_2 : decode cX13_isStranger 2 = .ok (.lconst 0, 1) := by decide +kernel
theorem dX13_isStranger_3 : decode cX13_isStranger 3 = .ok (.aload_n 0, 1) := by decide +kernel
theorem dX13_isStranger_4 : decode cX13_isStranger 4 = .ok (.getfield 9, 3) := by decide +kernel
theorem dX13_isStranger_7 : decode cX13_isStranger 7 = .ok (.iconst 3, 1) := by decide +kernel
theorem dX13_isStranger_8 : decode cX13_isStranger 8 = .ok (.iaload, 1) := by decide +kernel
theorem dX13_isStranger_9 : decode cX13_isStranger 9 = .ok (.iconst 1, 1) := by decide +kernel
theorem dX13_isStranger_10 : decode cX13_isStranger 10 = .ok (.isub, 1) := by decide +kernel
theorem dX13_isStranger_11 : decode cX13_isStranger 11 = .ok (.i2l, 1) := by decide +kernel
theorem dX13_isStranger_12 : decode cX13_isStranger 12 = .ok (.invokestatic 161, 3) := by decide +kernel
theorem dX13_isStranger_15 : decode cX13_isStranger 15 = .ok (.ireturn, 1) := by decide +kernel
theorem dX13_feed_0 : decode cX13_feed 0 = .ok (.aload_n 0, 1) := by decide +kernel
theorem dX13_feed_1 : decode cX13_feed 1 = .ok (.getfield 165, 3) := by decide +kernel
theorem dX13_feed_4 : decode cX13_feed 4 = .ok (.bipush 20, 2) := by decide +kernel
theorem dX13_feed_6 : decode cX13_feed 6 = .ok (.iadd, 1) := by decide +kernel
theorem dX13_feed_7 : decode cX13_feed 7 = .ok (.sipush 400, 3) := by decide +kernel
theorem dX13_feed_10 : decode cX13_feed 10 = .ok (.if_icmp .le 5, 3) := by decide +kernel
theorem dX13_feed_13 : decode cX13_feed 13 = .ok (.iconst (-1), 1) := by decide +kernel
theorem dX13_feed_14 : decode cX13_feed 14 = .ok (.ireturn, 1) := by decide +kernel
theorem dX13_feed_15 : decode cX13_feed 15 = .ok (.aload_n 0, 1) := by decide +kernel
theorem dX13_feed_16 : decode cX13_feed 16 = .ok (.iload_n 1, 1) := by decide +kernel
theorem dX13_feed_17 : decode cX13_feed 17 = .ok (.invokevirtual 168, 3) := by decide +kernel
theorem dX13_feed_20 : decode cX13_feed 20 = .ok (.aload_n 0, 1) := by decide +kernel
theorem dX13_feed_21 : decode cX13_feed 21 = .ok (.iload_n 2, 1) := by decide +kernel
theorem dX13_feed_22 : decode cX13_feed 22 = .ok (.invokevirtual 168, 3) := by decide +kernel
theorem dX13_feed_25 : decode cX13_feed 25 = .ok (.aload_n 0, 1) := by decide +kernel
theorem dX13_feed_26 : decode cX13_feed 26 = .ok (.iload_n 3, 1) := by decide +kernel
theorem dX13_feed_27 : decode cX13_feed 27 = .ok (.invokevirtual 168, 3) := by decide +kernel
theorem dX13_feed_30 : decode cX13_feed 30 = .ok (.aload_n 0, 1) := by decide +kernel
theorem dX13_feed_31 : decode cX13_feed 31 = .ok (.iload 4, 2) := by decide +kernel
theorem dX13_feed_33 : decode cX13_feed 33 = .ok (.invokevirtual 168, 3) := by decide +kernel
theorem dX13_feed_36 : decode cX13_feed 36 = .ok (.aload_n 0, 1) := by decide +kernel
theorem dX13_feed_37 : decode cX13_feed 37 = .ok (.iload 5, 2) := by decide +kernel
theorem dX13_feed_39 : decode cX13_feed 39 = .ok (.invokevirtual 168, 3) := by decide +kernel
theorem dX13_feed_42 : decode cX13_feed 42 = .ok (.aload_n 0, 1) := by decide +kernel
theorem dX13_feed_43 : decode cX13_feed 43 = .ok (.getfield 165, 3) := by decide +kernel
theorem dX13_feed_46 : decode cX13_feed 46 = .ok (.ireturn, 1) := by decide +kernel
theorem dX13_put_0 : decode cX13_put 0 = .ok (.bipush 24, 2) := by decide +kernel
theorem dX13_put_2 : decode cX13_put 2 = .ok (.istore_n 2, 1) := by decide +kernel
theorem dX13_put_3 : decode cX13_put 3 = .ok (.iload_n 2, 1) := by decide +kernel
theorem dX13_put_4 : decode cX13_put 4 = .ok (.ifCond .lt 32, 3) := by decide +kernel
theorem dX13_put_7 : decode cX13_put 7 = .ok (.aload_n 0, 1) := by decide +kernel
theorem dX13_put_8 : decode cX13_put 8 = .ok (.getfield 95, 3) := by decide +kernel
theorem dX13_put_11 : decode cX13_put 11 = .ok (.aload_n 0, 1) := by decide +kernel
theorem dX13_put_12 : decode cX13_put 12 = .ok (.getfield 165, 3) := by decide +kernel
theorem dX13_put_15 : decode cX13_put 15 = .ok (.iload_n 1, 1) := by decide +kernel
theorem dX13_put_16 : decode cX13_put 16 = .ok (.iload_n 2, 1) := by decide +kernel
theorem dX13_put_17 : decode cX13_put 17 = .ok (.ishr, 1) := by decide +kernel
theorem dX13_put_18 : decode cX13_put 18 = .ok (.i2b, 1) := by decide +kernel
theorem dX13_put_19 : decode cX13_put 19 = .ok (.bastore, 1) := by decide +kernel
theorem dX13_put_20 : decode cX13_put 20 = .ok (.aload_n 0, 1) := by decide +kernel
theorem dX13_put_21 : decode cX13_put 21 = .ok (.dup, 1) := by decide +kernel
theorem dX13_put_22 : decode cX13_put 22 = .ok (.getfield 165, 3) := by decide +kernel
theorem dX13_put_25 : decode cX13_put 25 = .ok (.iconst 1, 1) := by decide +kernel
theorem dX13_put_26 : decode cX13_put 26 = .ok (.iadd, 1) := by decide +kernel
theorem dX13_put_27 : decode cX13_put 27 = .ok (.putfield 165, 3) := by decide +kernel
theorem dX13_put_30 : decode cX13_put 30 = .ok (.iinc 2 (-8), 3) := by decide +kernel
theorem dX13_put_33 : decode cX13_put 33 = .ok (.goto (-30), 3) := by decide +kernel
theorem dX13_put_36 : decode cX13_put 36 = .ok (.return_, 1) := by decide +kernel
theorem dX13_end_0 : decode cX13_end 0 = .ok (.iload_n 1, 1) := by decide +kernel
theorem dX13_end_1 : decode cX13_end 1 = .ok (.ifCond .lt 11, 3) := by decide +kernel
theorem dX13_end_4 : decode cX13_end 4 = .ok (.iload_n 1, 1) := by decide +kernel
theorem dX13_end_5 : decode cX13_end 5 = .ok (.aload_n 0, 1) := by decide +kernel
theorem dX13_end_6 : decode cX13_end 6 = .ok (.getfield 165, 3) := by decide +kernel
theorem dX13_end_9 : decode cX13_end 9 = .ok (.if_icmp .le 5, 3) := by decide +kernel
theorem dX13_end_12 : decode cX13_end 12 = .ok (.iconst (-1), 1) := by decide +kernel
theorem dX13_end_13 : decode cX13_end 13 = .ok (.ireturn, 1) := by decide +kernel
theorem dX13_end_14 : decode cX13_end 14 = .ok (.aload_n 0, 1) := by decide +kernel
theorem dX13_end_15 : decode cX13_end 15 = .ok (.iload_n 1, 1) := by decide +kernel
theorem dX13_end_16 : decode cX13_end 16 = .ok (.putfield 165, 3) := by decide +kernel
theorem dX13_end_19 : decode cX13_end 19 = .ok (.iload_n 1, 1) := by decide +kernel
theorem dX13_end_20 : decode cX13_end 20 = .ok (.ireturn, 1) := by decide +kernel
theorem dX13_wordOf_0 : decode cX13_wordOf 0 = .ok (.iload_n 0, 1) := by decide +kernel
theorem dX13_wordOf_1 : decode cX13_wordOf 1 = .ok (.tableswitch 92 0 10 #[59, 62, 65, 68, 71, 74, 77, 80, 83, 86, 89], 59) := by decide +kernel
theorem dX13_wordOf_60 : decode cX13_wordOf 60 = .ok (.ldc 172, 2) := by decide +kernel
theorem dX13_wordOf_62 : decode cX13_wordOf 62 = .ok (.areturn, 1) := by decide +kernel
theorem dX13_wordOf_63 : decode cX13_wordOf 63 = .ok (.ldc 174, 2) := by decide +kernel
theorem dX13_wordOf_65 : decode cX13_wordOf 65 = .ok (.areturn, 1) := by decide +kernel
theorem dX13_wordOf_66 : decode cX13_wordOf 66 = .ok (.ldc 176, 2) := by decide +kernel
theorem dX13_wordOf_68 : decode cX13_wordOf 68 = .ok (.areturn, 1) := by decide +kernel
theorem dX13_wordOf_69 : decode cX13_wordOf 69 = .ok (.ldc 177, 2) := by decide +kernel
theorem dX13_wordOf_71 : decode cX13_wordOf 71 = .ok (.areturn, 1) := by decide +kernel
theorem dX13_wordOf_72 : decode cX13_wordOf 72 = .ok (.ldc 178, 2) := by decide +kernel
theorem dX13_wordOf_74 : decode cX13_wordOf 74 = .ok (.areturn, 1) := by decide +kernel
theorem dX13_wordOf_75 : decode cX13_wordOf 75 = .ok (.ldc 180, 2) := by decide +kernel
theorem dX13_wordOf_77 : decode cX13_wordOf 77 = .ok (.areturn, 1) := by decide +kernel
theorem dX13_wordOf_78 : decode cX13_wordOf 78 = .ok (.ldc 182, 2) := by decide +kernel
theorem dX13_wordOf_80 : decode cX13_wordOf 80 = .ok (.areturn, 1) := by decide +kernel
theorem dX13_wordOf_81 : decode cX13_wordOf 81 = .ok (.ldc 184, 2) := by decide +kernel
theorem dX13_wordOf_83 : decode cX13_wordOf 83 = .ok (.areturn, 1) := by decide +kernel
theorem dX13_wordOf_84 : decode cX13_wordOf 84 = .ok (.ldc 186, 2) := by decide +kernel
theorem dX13_wordOf_86 : decode cX13_wordOf 86 = .ok (.areturn, 1) := by decide +kernel
theorem dX13_wordOf_87 : decode cX13_wordOf 87 = .ok (.ldc 188, 2) := by decide +kernel
theorem dX13_wordOf_89 : decode cX13_wordOf 89 = .ok (.areturn, 1) := by decide +kernel
theorem dX13_wordOf_90 : decode cX13_wordOf 90 = .ok (.ldc 190, 2) := by decide +kernel
theorem dX13_wordOf_92 : decode cX13_wordOf 92 = .ok (.areturn, 1) := by decide +kernel
theorem dX13_wordOf_93 : decode cX13_wordOf 93 = .ok (.ldc 192, 2) := by decide +kernel
theorem dX13_wordOf_95 : decode cX13_wordOf 95 = .ok (.areturn, 1) := by decide +kernel
theorem dX13_fails_0 : decode cX13_fails 0 = .ok (.aload_n 0, 1) := by decide +kernel
theorem dX13_fails_1 : decode cX13_fails 1 = .ok (.aload_n 0, 1) := by decide +kernel
theorem dX13_fails_2 : decode cX13_fails 2 = .ok (.getfield 194, 3) := by decide +kernel
theorem dX13_fails_5 : decode cX13_fails 5 = .ok (.ifCond .ne 14, 3) := by decide +kernel
theorem dX13_fails_8 : decode cX13_fails 8 = .ok (.iconst 1, 1) := by decide +kernel
theorem dX13_fails_9 : decode cX13_fails 9 = .ok (.bipush 8, 2) := by decide +kernel
theorem dX13_fails_11 : decode cX13_fails 11 = .ok (.iload_n 2, 1) := by decide +kernel
theorem dX13_fails_12 : decode cX13_fails 12 = .ok (.imul, 1) := by decide +kernel
theorem dX13_fails_13 : decode cX13_fails 13 = .ok (.iadd, 1) := by decide +kernel
theorem dX13_fails_14 : decode cX13_fails 14 = .ok (.iload_n 1, 1) := by decide +kernel
theorem dX13_fails_15 : decode cX13_fails 15 = .ok (.iadd, 1) := by decide +kernel
theorem dX13_fails_16 : decode cX13_fails 16 = .ok (.goto 7, 3) := by decide +kernel
theorem dX13_fails_19 : decode cX13_fails 19 = .ok (.aload_n 0, 1) := by decide +kernel
theorem dX13_fails_20 : decode cX13_fails 20 = .ok (.getfield 194, 3) := by decide +kernel
theorem dX13_fails_23 : decode cX13_fails 23 = .ok (.putfield 194, 3) := by decide +kernel
theorem dX13_fails_26 : decode cX13_fails 26 = .ok (.return_, 1) := by decide +kernel
theorem dX13_sign_0 : decode cX13_sign 0 = .ok (.aload_n 0, 1) := by decide +kernel
theorem dX13_sign_1 : decode cX13_sign 1 = .ok (.getfield 197, 3) := by decide +kernel
theorem dX13_sign_4 : decode cX13_sign 4 = .ok (.aload_n 0, 1) := by decide +kernel
theorem dX13_sign_5 : decode cX13_sign 5 = .ok (.getfield 165, 3) := by decide +kernel
theorem dX13_sign_8 : decode cX13_sign 8 = .ok (.if_icmp .ge 19, 3) := by decide +kernel
theorem dX13_sign_11 : decode cX13_sign 11 = .ok (.aload_n 0, 1) := by decide +kernel
theorem dX13_sign_12 : decode cX13_sign 12 = .ok (.getfield 95, 3) := by decide +kernel
theorem dX13_sign_15 : decode cX13_sign 15 = .ok (.aload_n 0, 1) := by decide +kernel
theorem dX13_sign_16 : decode cX13_sign 16 = .ok (.getfield 197, 3) := by decide +kernel
theorem dX13_sign_19 : decode cX13_sign 19 = .ok (.baload, 1) := by decide +kernel
theorem dX13_sign_20 : decode cX13_sign 20 = .ok (.sipush 255, 3) := by decide +kernel
theorem dX13_sign_23 : decode cX13_sign 23 = .ok (.iand, 1) := by decide +kernel
theorem dX13_sign_24 : decode cX13_sign 24 = .ok (.goto 4, 3) := by decide +kernel
theorem dX13_sign_27 : decode cX13_sign 27 = .ok (.iconst (-1), 1) := by decide +kernel
theorem dX13_sign_28 : decode cX13_sign 28 = .ok (.ireturn, 1) := by decide +kernel
theorem dX13_blanks_0 : decode cX13_blanks 0 = .ok (.aload_n 0, 1) := by decide +kernel
theorem dX13_blanks_1 : decode cX13_blanks 1 = .ok (.invokevirtual 200, 3) := by decide +kernel
theorem dX13_blanks_4 : decode cX13_blanks 4 = .ok (.bipush 32, 2) := by decide +kernel
theorem dX13_blanks_6 : decode cX13_blanks 6 = .ok (.if_icmp .ne 16, 3) := by decide +kernel
theorem dX13_blanks_9 : decode cX13_blanks 9 = .ok (.aload_n 0, 1) := by decide +kernel
theorem dX13_blanks_10 : decode cX13_blanks 10 = .ok (.dup, 1) := by decide +kernel
theorem dX13_blanks_11 : decode cX13_blanks 11 = .ok (.getfield 197, 3) := by decide +kernel
theorem dX13_blanks_14 : decode cX13_blanks 14 = .ok (.iconst 1, 1) := by decide +kernel
theorem dX13_blanks_15 : decode cX13_blanks 15 = .ok (.iadd, 1) := by decide +kernel
theorem dX13_blanks_16 : decode cX13_blanks 16 = .ok (.putfield 197, 3) := by decide +kernel
theorem dX13_blanks_19 : decode cX13_blanks 19 = .ok (.goto (-19), 3) := by decide +kernel
theorem dX13_blanks_22 : decode cX13_blanks 22 = .ok (.return_, 1) := by decide +kernel
theorem dX13_isDigit_0 : decode cX13_isDigit 0 = .ok (.aload_n 0, 1) := by decide +kernel
theorem dX13_isDigit_1 : decode cX13_isDigit 1 = .ok (.invokevirtual 200, 3) := by decide +kernel
theorem dX13_isDigit_4 : decode cX13_isDigit 4 = .ok (.i2l, 1) := by decide +kernel
theorem dX13_isDigit_5 : decode cX13_isDigit 5 = .ok (.ldc2_w 204, 3) := by decide +kernel
theorem dX13_isDigit_8 : decode cX13_isDigit 8 = .ok (.ldc2_w 206, 3) := by decide +kernel
theorem dX13_isDigit_11 : decode cX13_isDigit 11 = .ok (.invokestatic 161, 3) := by decide +kernel
theorem dX13_isDigit_14 : decode cX13_isDigit 14 = .ok (.ireturn, 1) := by decide +kernel
theorem dX13_stood_0 : decode cX13_stood 0 = .ok (.aload_n 0, 1) := by decide +kernel
theorem dX13_stood_1 : decode cX13_stood 1 = .ok (.getfield 197, 3) := by decide +kernel
theorem dX13_stood_4 : decode cX13_stood 4 = .ok (.istore_n 2, 1) := by decide +kernel
theorem dX13_stood_5 : decode cX13_stood 5 = .ok (.iload_n 2, 1) := by decide +kernel
theorem dX13_stood_6 : decode cX13_stood 6 = .ok (.aload_n 0, 1) := by decide +kernel
theorem dX13_stood_7 : decode cX13_stood 7 = .ok (.getfield 165, 3) := by decide +kernel
theorem dX13_stood_10 : decode cX13_stood 10 = .ok (.if_icmp .ge 31, 3) := by decide +kernel
theorem dX13_stood_13 : decode cX13_stood 13 = .ok (.aload_n 0, 1) := by decide +kernel
theorem dX13_stood_14 : decode cX13_stood 14 = .ok (.getfield 95, 3) := by decide +kernel
theorem dX13_stood_17 : decode cX13_stood 17 = .ok (.iload_n 2, 1) := by decide +kernel
theorem dX13_stood_18 : decode cX13_stood 18 = .ok (.baload, 1) := by decide +kernel
theorem dX13_stood_19 : decode cX13_stood 19 = .ok (.bipush 97, 2) := by decide +kernel
theorem dX13_stood_21 : decode cX13_stood 21 = .ok (.if_icmp .lt 20, 3) := by decide +kernel
theorem dX13_stood_24 : decode cX13_stood 24 = .ok (.aload_n 0, 1) := by decide +kernel
theorem dX13_stood_25 : decode cX13_stood 25 = .ok (.getfield 95, 3) := by decide +kernel
theorem dX13_stood_28 : decode cX13_stood 28 = .ok (.iload_n 2, 1) := by decide +kernel
theorem dX13_stood_29 : decode cX13_stood 29 = .ok (.baload, 1) := by decide +kernel
theorem dX13_stood_30 : decode cX13_stood 30 = .ok (.bipush 122, 2) := by decide +kernel
theorem dX13_stood_32 : decode cX13_stood 32 = .ok (.if_icmp .gt 9, 3) := by decide +kernel
theorem dX13_stood_35 : decode cX13_stood 35 = .ok (.iinc 2 1, 3) := by decide +kernel
theorem dX13_stood_38 : decode cX13_stood 38 = .ok (.goto (-33), 3) := by decide +kernel
theorem dX13_stood_41 : decode cX13_stood 41 = .ok (.iload_n 2, 1) := by decide +kernel
theorem dX13_stood_42 : decode cX13_stood 42 = .ok (.aload_n 0, 1) := by decide +kernel
theorem dX13_stood_43 : decode cX13_stood 43 = .ok (.getfield 197, 3) := by decide +kernel
theorem dX13_stood_46 : decode cX13_stood 46 = .ok (.isub, 1) := by decide +kernel
theorem dX13_stood_47 : decode cX13_stood 47 = .ok (.aload_n 1, 1) := by decide +kernel
theorem dX13_stood_48 : decode cX13_stood 48 = .ok (.invokevirtual 208, 3) := by decide +kernel
theorem dX13_stood_51 : decode cX13_stood 51 = .ok (.if_icmp .ne 7, 3) := by decide +kernel
theorem dX13_stood_54 : decode cX13_stood 54 = .ok (.iconst 1, 1) := by decide +kernel
theorem dX13_stood_55 : decode cX13_stood 55 = .ok (.goto 4, 3) := by decide +kernel
theorem dX13_stood_58 : decode cX13_stood 58 = .ok (.iconst 0, 1) := by decide +kernel
theorem dX13_stood_59 : decode cX13_stood 59 = .ok (.istore_n 3, 1) := by decide +kernel
theorem dX13_stood_60 : decode cX13_stood 60 = .ok (.iconst 0, 1) := by decide +kernel
theorem dX13_stood_61 : decode cX13_stood 61 = .ok (.istore 4, 2) := by decide +kernel
theorem dX13_stood_63 : decode cX13_stood 63 = .ok (.iload 4, 2) := by decide +kernel
theorem dX13_stood_65 : decode cX13_stood 65 = .ok (.aload_n 1, 1) := by decide +kernel
theorem dX13_stood_66 : decode cX13_stood 66 = .ok (.invokevirtual 208, 3) := by decide +kernel
theorem dX13_stood_69 : decode cX13_stood 69 = .ok (.if_icmp .ge 40, 3) := by decide +kernel
theorem dX13_stood_72 : decode cX13_stood 72 = .ok (.iload_n 3, 1) := by decide +kernel
theorem dX13_stood_73 : decode cX13_stood 73 = .ok (.ifCond .eq 36, 3) := by decide +kernel
theorem dX13_stood_76 : decode cX13_stood 76 = .ok (.aload_n 0, 1) := by decide +kernel
theorem dX13_stood_77 : decode cX13_stood 77 = .ok (.getfield 95, 3) := by decide +kernel
theorem dX13_stood_80 : decode cX13_stood 80 = .ok (.aload_n 0, 1) := by decide +kernel
theorem dX13_stood_81 : decode cX13_stood 81 = .ok (.getfield 197, 3) := by decide +kernel
theorem dX13_stood_84 : decode cX13_stood 84 = .ok (.iload 4, 2) := by decide +kernel
theorem dX13_stood_86 : decode cX13_stood 86 = .ok (.iadd, 1) := by decide +kernel
theorem dX13_stood_87 : decode cX13_stood 87 = .ok (.baload, 1) := by decide +kernel
theorem dX13_stood_88 : decode cX13_stood 88 = .ok (.aload_n 1, 1) := by decide +kernel
theorem dX13_stood_89 : decode cX13_stood 89 = .ok (.iload 4, 2) := by decide +kernel
theorem dX13_stood_91 : decode cX13_stood 91 = .ok (.invokevirtual 213, 3) := by decide +kernel
theorem dX13_stood_94 : decode cX13_stood 94 = .ok (.if_icmp .ne 7, 3) := by decide +kernel
theorem dX13_stood_97 : decode cX13_stood 97 = .ok (.iconst 1, 1) := by decide +kernel
theorem dX13_stood_98 : decode cX13_stood 98 = .ok (.goto 4, 3) := by decide +kernel
theorem dX13_stood_101 : decode cX13_stood 101 = .ok (.iconst 0, 1) := by decide +kernel
theorem dX13_stood_102 : decode cX13_stood 102 = .ok (.istore_n 3, 1) := by decide +kernel
theorem dX13_stood_103 : decode cX13_stood 103 = .ok (.iinc 4 1, 3) := by decide +kernel
theorem dX13_stood_106 : decode cX13_stood 106 = .ok (.goto (-43), 3) := by decide +kernel
theorem dX13_stood_109 : decode cX13_stood 109 = .ok (.iload_n 3, 1) := by decide +kernel
theorem dX13_stood_110 : decode cX13_stood 110 = .ok (.ireturn, 1) := by decide +kernel
theorem dX13_takes_0 : decode cX13_takes 0 = .ok (.aload_n 0, 1) := by decide +kernel
theorem dX13_takes_1 : decode cX13_takes 1 = .ok (.invokevirtual 217, 3) := by decide +kernel
theorem dX13_takes_4 : decode cX13_takes 4 = .ok (.aload_n 0, 1) := by decide +kernel
theorem dX13_takes_5 : decode cX13_takes 5 = .ok (.aload_n 1, 1) := by decide +kernel
theorem dX13_takes_6 : decode cX13_takes 6 = .ok (.invokevirtual 220, 3) := by decide +kernel
theorem dX13_takes_9 : decode cX13_takes 9 = .ok (.istore_n 2, 1) := by decide +kernel
theorem dX13_takes_10 : decode cX13_takes 10 = .ok (.aload_n 0, 1) := by decide +kernel
theorem dX13_takes_11 : decode cX13_takes 11 = .ok (.dup, 1) := by decide +kernel
theorem dX13_takes_12 : decode cX13_takes 12 = .ok (.getfield 197, 3) := by decide +kernel
theorem dX13_takes_15 : decode cX13_takes 15 = .ok (.iload_n 2, 1) := by decide +kernel
theorem dX13_takes_16 : decode cX13_takes 16 = .ok (.ifCond .eq 10, 3) := by decide +kernel
theorem dX13_takes_19 : decode cX13_takes 19 = .ok (.aload_n 1, 1) := by decide +kernel
theorem dX13_takes_20 : decode cX13_takes 20 = .ok (.invokevirtual 208, 3) := by decide +kernel
theorem dX13_takes_23 : decode cX13_takes 23 = .ok (.goto 4, 3) := by decide +kernel
theorem dX13_takes_26 : decode cX13_takes 26 = .ok (.iconst 0, 1) := by decide +kernel
theorem dX13_takes_27 : decode cX13_takes 27 = .ok (.iadd, 1) := by decide +kernel
theorem dX13_takes_28 : decode cX13_takes 28 = .ok (.putfield 197, 3) := by decide +kernel
theorem dX13_takes_31 : decode cX13_takes 31 = .ok (.iload_n 2, 1) := by decide +kernel
theorem dX13_takes_32 : decode cX13_takes 32 = .ok (.ireturn, 1) := by decide +kernel
theorem dX13_entry_0 : decode cX13_entry 0 = .ok (.aload_n 0, 1) := by decide +kernel
theorem dX13_entry_1 : decode cX13_entry 1 = .ok (.getfield 194, 3) := by decide +kernel
theorem dX13_entry_4 : decode cX13_entry 4 = .ok (.ifCond .ne 51, 3) := by decide +kernel
theorem dX13_entry_7 : decode cX13_entry 7 = .ok (.aload_n 0, 1) := by decide +kernel
theorem dX13_entry_8 : decode cX13_entry 8 = .ok (.getfield 99, 3) := by decide +kernel
theorem dX13_entry_11 : decode cX13_entry 11 = .ok (.sipush 300, 3) := by decide +kernel
theorem dX13_entry_14 : decode cX13_entry 14 = .ok (.aload_n 0, 1) := by decide +kernel
theorem dX13_entry_15 : decode cX13_entry 15 = .ok (.getfield 224, 3) := by decide +kernel
theorem dX13_entry_18 : decode cX13_entry 18 = .ok (.imul, 1) := by decide +kernel
theorem dX13_entry_19 : decode cX13_entry 19 = .ok (.aload_n 0, 1) := by decide +kernel
theorem dX13_entry_20 : decode cX13_entry 20 = .ok (.getfield 227, 3) := by decide +kernel
theorem dX13_entry_23 : decode cX13_entry 23 = .ok (.iadd, 1) := by decide +kernel
theorem dX13_entry_24 : decode cX13_entry 24 = .ok (.iload_n 1, 1) := by decide +kernel
theorem dX13_entry_25 : decode cX13_entry 25 = .ok (.iastore, 1) := by decide +kernel
theorem dX13_entry_26 : decode cX13_entry 26 = .ok (.aload_n 0, 1) := by decide +kernel
theorem dX13_entry_27 : decode cX13_entry 27 = .ok (.getfield 102, 3) := by decide +kernel
theorem dX13_entry_30 : decode cX13_entry 30 = .ok (.sipush 300, 3) := by decide +kernel
theorem dX13_entry_33 : decode cX13_entry 33 = .ok (.aload_n 0, 1) := by decide +kernel
theorem dX13_entry_34 : decode cX13_entry 34 = .ok (.getfield 224, 3) := by decide +kernel
theorem dX13_entry_37 : decode cX13_entry 37 = .ok (.imul, 1) := by decide +kernel
theorem dX13_entry_38 : decode cX13_entry 38 = .ok (.aload_n 0, 1) := by decide +kernel
theorem dX13_entry_39 : decode cX13_entry 39 = .ok (.getfield 227, 3) := by decide +kernel
theorem dX13_entry_42 : decode cX13_entry 42 = .ok (.iadd, 1) := by decide +kernel
theorem dX13_entry_43 : decode cX13_entry 43 = .ok (.iload_n 2, 1) := by decide +kernel
theorem dX13_entry_44 : decode cX13_entry 44 = .ok (.iastore, 1) := by decide +kernel
theorem dX13_entry_45 : decode cX13_entry 45 = .ok (.aload_n 0, 1) := by decide +kernel
theorem dX13_entry_46 : decode cX13_entry 46 = .ok (.dup, 1) := by decide +kernel
theorem dX13_entry_47 : decode cX13_entry 47 = .ok (.getfield 227, 3) := by decide +kernel
theorem dX13_entry_50 : decode cX13_entry 50 = .ok (.iconst 1, 1) := by decide +kernel
theorem dX13_entry_51 : decode cX13_entry 51 = .ok (.iadd, 1) := by decide +kernel
theorem dX13_entry_52 : decode cX13_entry 52 = .ok (.putfield 227, 3) := by decide +kernel
theorem dX13_entry_55 : decode cX13_entry 55 = .ok (.return_, 1) := by decide +kernel
theorem dX13_isCounted_0 : decode cX13_isCounted 0 = .ok (.aload_n 0, 1) := by decide +kernel
theorem dX13_isCounted_1 : decode cX13_isCounted 1 = .ok (.getfield 230, 3) := by decide +kernel
theorem dX13_isCounted_4 : decode cX13_isCounted 4 = .ok (.bipush 60, 2) := by decide +kernel
theorem dX13_isCounted_6 : decode cX13_isCounted 6 = .ok (.if_icmp .ne 9, 3) := by decide +kernel
theorem dX13_isCounted_9 : decode cX13_isCounted 9 = .ok (.aload_n 0, 1) := by decide +kernel
theorem dX13_isCounted_10 : decode cX13_isCounted 10 = .ok (.iconst 3, 1) := by decide +kernel
theorem dX13_isCounted_11 : decode cX13_isCounted 11 = .ok (.iload_n 1, 1) := by decide +kernel
theorem dX13_isCounted_12 : decode cX13_isCounted 12 = .ok (.invokevirtual 233, 3) := by decide +kernel
theorem dX13_isCounted_15 : decode cX13_isCounted 15 = .ok (.aload_n 0, 1) := by decide +kernel
theorem dX13_isCounted_16 : decode cX13_isCounted 16 = .ok (.dup, 1) := by decide +kernel
theorem dX13_isCounted_17 : decode cX13_isCounted 17 = .ok (.getfield 230, 3) := by decide +kernel
theorem dX13_isCounted_20 : decode cX13_isCounted 20 = .ok (.iconst 1, 1) := by decide +kernel
theorem dX13_isCounted_21 : decode cX13_isCounted 21 = .ok (.iadd, 1) := by decide +kernel
theorem dX13_isCounted_22 : decode cX13_isCounted 22 = .ok (.putfield 230, 3) := by decide +kernel
theorem dX13_isCounted_25 : decode cX13_isCounted 25 = .ok (.return_, 1) := by decide +kernel
theorem dX13_digits_0 : decode cX13_digits 0 = .ok (.aload_n 0, 1) := by decide +kernel
theorem dX13_digits_1 : decode cX13_digits 1 = .ok (.invokevirtual 237, 3) := by decide +kernel
theorem dX13_digits_4 : decode cX13_digits 4 = .ok (.ifCond .ne 14, 3) := by decide +kernel
theorem dX13_digits_7 : decode cX13_digits 7 = .ok (.aload_n 0, 1) := by decide +kernel
theorem dX13_digits_8 : decode cX13_digits 8 = .ok (.iconst 0, 1) := by decide +kernel
theorem dX13_digits_9 : decode cX13_digits 9 = .ok (.aload_n 0, 1) := by decide +kernel
theorem dX13_digits_10 : decode cX13_digits 10 = .ok (.getfield 197, 3) := by decide +kernel
theorem dX13_digits_13 : decode cX13_digits 13 = .ok (.invokevirtual 233, 3) := by decide +kernel
theorem dX13_digits_16 : decode cX13_digits 16 = .ok (.iconst 0, 1) := by decide +kernel
theorem dX13_digits_17 : decode cX13_digits 17 = .ok (.ireturn, 1) := by decide +kernel
theorem dX13_digits_18 : decode cX13_digits 18 = .ok (.aload_n 0, 1) := by decide +kernel
theorem dX13_digits_19 : decode cX13_digits 19 = .ok (.getfield 197, 3) := by decide +kernel
theorem dX13_digits_22 : decode cX13_digits 22 = .ok (.istore_n 2, 1) := by decide +kernel
theorem dX13_digits_23 : decode cX13_digits 23 = .ok (.iconst 0, 1) := by decide +kernel
theorem dX13_digits_24 : decode cX13_digits 24 = .ok (.istore_n 3, 1) := by decide +kernel
theorem dX13_digits_25 : decode cX13_digits 25 = .ok (.aload_n 0, 1) := by decide +kernel
theorem dX13_digits_26 : decode cX13_digits 26 = .ok (.invokevirtual 237, 3) := by decide +kernel
theorem dX13_digits_29 : decode cX13_digits 29 = .ok (.ifCond .eq 43, 3) := by decide +kernel
theorem dX13_digits_32 : decode cX13_digits 32 = .ok (.aload_n 0, 1) := by decide +kernel
theorem dX13_digits_33 : decode cX13_digits 33 = .ok (.getfield 197, 3) := by decide +kernel
theorem dX13_digits_36 : decode cX13_digits 36 = .ok (.iload_n 2, 1) := by decide +kernel
theorem dX13_digits_37 : decode cX13_digits 37 = .ok (.isub, 1) := by decide +kernel
theorem dX13_digits_38 : decode cX13_digits 38 = .ok (.iconst 5, 1) := by decide +kernel
theorem dX13_digits_39 : decode cX13_digits 39 = .ok (.if_icmp .ge 18, 3) := by decide +kernel
theorem dX13_digits_42 : decode cX13_digits 42 = .ok (.bipush 10, 2) := by decide +kernel
theorem dX13_digits_44 : decode cX13_digits 44 = .ok (.iload_n 3, 1) := by decide +kernel
theorem dX13_digits_45 : decode cX13_digits 45 = .ok (.imul, 1) := by decide +kernel
theorem dX13_digits_46 : decode cX13_digits 46 = .ok (.aload_n 0, 1) := by decide +kernel
theorem dX13_digits_47 : decode cX13_digits 47 = .ok (.invokevirtual 200, 3) := by decide +kernel
theorem dX13_digits_50 : decode cX13_digits 50 = .ok (.iadd, 1) := by decide +kernel
theorem dX13_digits_51 : decode cX13_digits 51 = .ok (.bipush 48, 2) := by decide +kernel
theorem dX13_digits_53 : decode cX13_digits 53 = .ok (.isub, 1) := by decide +kernel
theorem dX13_digits_54 : decode cX13_digits 54 = .ok (.goto 4, 3) := by decide +kernel
theorem dX13_digits_57 : decode cX13_digits 57 = .ok (.iload_n 3, 1) := by decide +kernel
theorem dX13_digits_58 : decode cX13_digits 58 = .ok (.istore_n 3, 1) := by decide +kernel
theorem dX13_digits_59 : decode cX13_digits 59 = .ok (.aload_n 0, 1) := by decide +kernel
theorem dX13_digits_60 : decode cX13_digits 60 = .ok (.dup, 1) := by decide +kernel
theorem dX13_digits_61 : decode cX13_digits 61 = .ok (.getfield 197, 3) := by decide +kernel
theorem dX13_digits_64 : decode cX13_digits 64 = .ok (.iconst 1, 1) := by decide +kernel
theorem dX13_digits_65 : decode cX13_digits 65 = .ok (.iadd, 1) := by decide +kernel
theorem dX13_digits_66 : decode cX13_digits 66 = .ok (.putfield 197, 3) := by decide +kernel
theorem dX13_digits_69 : decode cX13_digits 69 = .ok (.goto (-44), 3) := by decide +kernel
theorem dX13_digits_72 : decode cX13_digits 72 = .ok (.aload_n 0, 1) := by decide +kernel
theorem dX13_digits_73 : decode cX13_digits 73 = .ok (.getfield 197, 3) := by decide +kernel
theorem dX13_digits_76 : decode cX13_digits 76 = .ok (.iload_n 2, 1) := by decide +kernel
theorem dX13_digits_77 : decode cX13_digits 77 = .ok (.isub, 1) := by decide +kernel
theorem dX13_digits_78 : decode cX13_digits 78 = .ok (.iconst 5, 1) := by decide +kernel
theorem dX13_digits_79 : decode cX13_digits 79 = .ok (.if_icmp .gt 8, 3) := by decide +kernel
theorem dX13_digits_82 : decode cX13_digits 82 = .ok (.iload_n 3, 1) := by decide +kernel
theorem dX13_digits_83 : decode cX13_digits 83 = .ok (.iload_n 1, 1) := by decide +kernel
theorem dX13_digits_84 : decode cX13_digits 84 = .ok (.if_icmp .le 9, 3) := by decide +kernel
theorem dX13_digits_87 : decode cX13_digits 87 = .ok (.aload_n 0, 1) := by decide +kernel
theorem dX13_digits_88 : decode cX13_digits 88 = .ok (.iconst 1, 1) := by decide +kernel
theorem dX13_digits_89 : decode cX13_digits 89 = .ok (.iload_n 2, 1) := by decide +kernel
theorem dX13_digits_90 : decode cX13_digits 90 = .ok (.invokevirtual 233, 3) := by decide +kernel
theorem dX13_digits_93 : decode cX13_digits 93 = .ok (.iload_n 3, 1) := by decide +kernel
theorem dX13_digits_94 : decode cX13_digits 94 = .ok (.ireturn, 1) := by decide +kernel
theorem dX13_value_0 : decode cX13_value 0 = .ok (.aload_n 0, 1) := by decide +kernel
theorem dX13_value_1 : decode cX13_value 1 = .ok (.invokevirtual 217, 3) := by decide +kernel
theorem dX13_value_4 : decode cX13_value 4 = .ok (.aload_n 0, 1) := by decide +kernel
theorem dX13_value_5 : decode cX13_value 5 = .ok (.getfield 197, 3) := by decide +kernel
theorem dX13_value_8 : decode cX13_value 8 = .ok (.istore_n 1, 1) := by decide +kernel
theorem dX13_value_9 : decode cX13_value 9 = .ok (.aload_n 0, 1) := by decide +kernel
theorem dX13_value_10 : decode cX13_value 10 = .ok (.invokevirtual 237, 3) := by decide +kernel
theorem dX13_value_13 : decode cX13_value 13 = .ok (.ifCond .eq 22, 3) := by decide +kernel
theorem dX13_value_16 : decode cX13_value 16 = .ok (.aload_n 0, 1) := by decide +kernel
theorem dX13_value_17 : decode cX13_value 17 = .ok (.ldc 241, 2) := by decide +kernel
theorem dX13_value_19 : decode cX13_value 19 = .ok (.invokevirtual 242, 3) := by decide +kernel
theorem dX13_value_22 : decode cX13_value 22 = .ok (.istore_n 2, 1) := by decide +kernel
theorem dX13_value_23 : decode cX13_value 23 = .ok (.aload_n 0, 1) := by decide +kernel
theorem dX13_value_24 : decode cX13_value 24 = .ok (.iload_n 1, 1) := by decide +kernel
theorem dX13_value_25 : decode cX13_value 25 = .ok (.invokevirtual 246, 3) := by decide +kernel
theorem dX13_value_28 : decode cX13_value 28 = .ok (.aload_n 0, 1) := by decide +kernel
theorem dX13_value_29 : decode cX13_value 29 = .ok (.iconst 0, 1) := by decide +kernel
theorem dX13_value_30 : decode cX13_value 30 = .ok (.iload_n 2, 1) := by decide +kernel
theorem dX13_value_31 : decode cX13_value 31 = .ok (.invokevirtual 249, 3) := by decide +kernel
theorem dX13_value_34 : decode cX13_value 34 = .ok (.return_, 1) := by decide +kernel
theorem dX13_value_35 : decode cX13_value 35 = .ok (.iconst 0, 1) := by decide +kernel
theorem dX13_value_36 : decode cX13_value 36 = .ok (.istore_n 2, 1) := by decide +kernel
theorem dX13_value_37 : decode cX13_value 37 = .ok (.iload_n 2, 1) := by decide +kernel
theorem dX13_value_38 : decode cX13_value 38 = .ok (.aload_n 0, 1) := by decide +kernel
theorem dX13_value_39 : decode cX13_value 39 = .ok (.getfield 91, 3) := by decide +kernel
theorem dX13_value_42 : decode cX13_value 42 = .ok (.if_icmp .ge 20, 3) := by decide +kernel
theorem dX13_value_45 : decode cX13_value 45 = .ok (.aload_n 0, 1) := by decide +kernel
theorem dX13_value_46 : decode cX13_value 46 = .ok (.iload_n 2, 1) := by decide +kernel
theorem dX13_value_47 : decode cX13_value 47 = .ok (.invokestatic 252, 3) := by decide +kernel
theorem dX13_value_50 : decode cX13_value 50 = .ok (.invokevirtual 220, 3) := by decide +kernel
theorem dX13_value_53 : decode cX13_value 53 = .ok (.ifCond .ne 9, 3) := by decide +kernel
theorem dX13_value_56 : decode cX13_value 56 = .ok (.iinc 2 1, 3) := by decide +kernel
theorem dX13_value_59 : decode cX13_value 59 = .ok (.goto (-22), 3) := by decide +kernel
theorem dX13_value_62 : decode cX13_value 62 = .ok (.iload_n 2, 1) := by decide +kernel
theorem dX13_value_63 : decode cX13_value 63 = .ok (.aload_n 0, 1) := by decide +kernel
theorem dX13_value_64 : decode cX13_value 64 = .ok (.getfield 91, 3) := by decide +kernel
theorem dX13_value_67 : decode cX13_value 67 = .ok (.if_icmp .ne 10, 3) := by decide +kernel
theorem dX13_value_70 : decode cX13_value 70 = .ok (.aload_n 0, 1) := by decide +kernel
theorem dX13_value_71 : decode cX13_value 71 = .ok (.iconst 0, 1) := by decide +kernel
theorem dX13_value_72 : decode cX13_value 72 = .ok (.iload_n 1, 1) := by decide +kernel
theorem dX13_value_73 : decode cX13_value 73 = .ok (.invokevirtual 233, 3) := by decide +kernel
theorem dX13_value_76 : decode cX13_value 76 = .ok (.return_, 1) := by decide +kernel
theorem dX13_value_77 : decode cX13_value 77 = .ok (.aload_n 0, 1) := by decide +kernel
theorem dX13_value_78 : decode cX13_value 78 = .ok (.iload_n 1, 1) := by decide +kernel
theorem dX13_value_79 : decode cX13_value 79 = .ok (.invokevirtual 246, 3) := by decide +kernel
theorem dX13_value_82 : decode cX13_value 82 = .ok (.aload_n 0, 1) := by decide +kernel
theorem dX13_value_83 : decode cX13_value 83 = .ok (.dup, 1) := by decide +kernel
theorem dX13_value_84 : decode cX13_value 84 = .ok (.getfield 197, 3) := by decide +kernel
theorem dX13_value_87 : decode cX13_value 87 = .ok (.iload_n 2, 1) := by decide +kernel
theorem dX13_value_88 : decode cX13_value 88 = .ok (.invokestatic 252, 3) := by decide +kernel
theorem dX13_value_91 : decode cX13_value 91 = .ok (.invokevirtual 208, 3) := by decide +kernel
theorem dX13_value_94 : decode cX13_value 94 = .ok (.iadd, 1) := by decide +kernel
theorem dX13_value_95 : decode cX13_value 95 = .ok (.putfield 197, 3) := by decide +kernel
theorem dX13_value_98 : decode cX13_value 98 = .ok (.aload_n 0, 1) := by decide +kernel
theorem dX13_value_99 : decode cX13_value 99 = .ok (.iconst 1, 1) := by decide +kernel
theorem dX13_value_100 : decode cX13_value 100 = .ok (.iload_n 2, 1) := by decide +kernel
theorem dX13_value_101 : decode cX13_value 101 = .ok (.invokevirtual 249, 3) := by decide +kernel
theorem dX13_value_104 : decode cX13_value 104 = .ok (.return_, 1) := by decide +kernel
theorem dX13_term_0 : decode cX13_term 0 = .ok (.aload_n 0, 1) := by decide +kernel
theorem dX13_term_1 : decode cX13_term 1 = .ok (.invokevirtual 256, 3) := by decide +kernel
theorem dX13_term_4 : decode cX13_term 4 = .ok (.aload_n 0, 1) := by decide +kernel
theorem dX13_term_5 : decode cX13_term 5 = .ok (.invokevirtual 217, 3) := by decide +kernel
theorem dX13_term_8 : decode cX13_term 8 = .ok (.aload_n 0, 1) := by decide +kernel
theorem dX13_term_9 : decode cX13_term 9 = .ok (.getfield 194, 3) := by decide +kernel
theorem dX13_term_12 : decode cX13_term 12 = .ok (.ifCond .ne 88, 3) := by decide +kernel
theorem dX13_term_15 : decode cX13_term 15 = .ok (.aload_n 0, 1) := by decide +kernel
theorem dX13_term_16 : decode cX13_term 16 = .ok (.invokevirtual 200, 3) := by decide +kernel
theorem dX13_term_19 : decode cX13_term 19 = .ok (.bipush 42, 2) := by decide +kernel
theorem dX13_term_21 : decode cX13_term 21 = .ok (.if_icmp .eq 21, 3) := by decide +kernel
theorem dX13_term_24 : decode cX13_term 24 = .ok (.aload_n 0, 1) := by decide +kernel
theorem dX13_term_25 : decode cX13_term 25 = .ok (.invokevirtual 200, 3) := by decide +kernel
theorem dX13_term_28 : decode cX13_term 28 = .ok (.bipush 47, 2) := by decide +kernel
theorem dX13_term_30 : decode cX13_term 30 = .ok (.if_icmp .eq 12, 3) := by decide +kernel
theorem dX13_term_33 : decode cX13_term 33 = .ok (.aload_n 0, 1) := by decide +kernel
theorem dX13_term_34 : decode cX13_term 34 = .ok (.invokevirtual 200, 3) := by decide +kernel
theorem dX13_term_37 : decode cX13_term 37 = .ok (.bipush 37, 2) := by decide +kernel
theorem dX13_term_39 : decode cX13_term 39 = .ok (.if_icmp .ne 61, 3) := by decide +kernel
theorem dX13_term_42 : decode cX13_term 42 = .ok (.aload_n 0, 1) := by decide +kernel
theorem dX13_term_43 : decode cX13_term 43 = .ok (.invokevirtual 200, 3) := by decide +kernel
theorem dX13_term_46 : decode cX13_term 46 = .ok (.bipush 42, 2) := by decide +kernel
theorem dX13_term_48 : decode cX13_term 48 = .ok (.if_icmp .ne 8, 3) := by decide +kernel
theorem dX13_term_51 : decode cX13_term 51 = .ok (.bipush 13, 2) := by decide +kernel
theorem dX13_term_53 : decode cX13_term 53 = .ok (.goto 19, 3) := by decide +kernel
theorem dX13_term_56 : decode cX13_term 56 = .ok (.aload_n 0, 1) := by decide +kernel
theorem dX13_term_57 : decode cX13_term 57 = .ok (.invokevirtual 200, 3) := by decide +kernel
theorem dX13_term_60 : decode cX13_term 60 = .ok (.bipush 47, 2) := by decide +kernel
theorem dX13_term_62 : decode cX13_term 62 = .ok (.if_icmp .ne 8, 3) := by decide +kernel
theorem dX13_term_65 : decode cX13_term 65 = .ok (.bipush 14, 2) := by decide +kernel
theorem dX13_term_67 : decode cX13_term 67 = .ok (.goto 5, 3) := by decide +kernel
theorem dX13_term_70 : decode cX13_term 70 = .ok (.bipush 15, 2) := by decide +kernel
theorem dX13_term_72 : decode cX13_term 72 = .ok (.istore_n 1, 1) := by decide +kernel
theorem dX13_term_73 : decode cX13_term 73 = .ok (.aload_n 0, 1) := by decide +kernel
theorem dX13_term_74 : decode cX13_term 74 = .ok (.dup, 1) := by decide +kernel
theorem dX13_term_75 : decode cX13_term 75 = .ok (.getfield 197, 3) := by decide +kernel
theorem dX13_term_78 : decode cX13_term 78 = .ok (.iconst 1, 1) := by decide +kernel
theorem dX13_term_79 : decode cX13_term 79 = .ok (.iadd, 1) := by decide +kernel
theorem dX13_term_80 : decode cX13_term 80 = .ok (.putfield 197, 3) := by decide +kernel
theorem dX13_term_83 : decode cX13_term 83 = .ok (.aload_n 0, 1) := by decide +kernel
theorem dX13_term_84 : decode cX13_term 84 = .ok (.invokevirtual 256, 3) := by decide +kernel
theorem dX13_term_87 : decode cX13_term 87 = .ok (.aload_n 0, 1) := by decide +kernel
theorem dX13_term_88 : decode cX13_term 88 = .ok (.iload_n 1, 1) := by decide +kernel
theorem dX13_term_89 : decode cX13_term 89 = .ok (.iconst 0, 1) := by decide +kernel
theorem dX13_term_90 : decode cX13_term 90 = .ok (.invokevirtual 249, 3) := by decide +kernel
theorem dX13_term_93 : decode cX13_term 93 = .ok (.aload_n 0, 1) := by decide +kernel
theorem dX13_term_94 : decode cX13_term 94 = .ok (.invokevirtual 217, 3) := by decide +kernel
theorem dX13_term_97 : decode cX13_term 97 = .ok (.goto (-89), 3) := by decide +kernel
theorem dX13_term_100 : decode cX13_term 100 = .ok (.return_, 1) := by decide +kernel
theorem dX13_sum_0 : decode cX13_sum 0 = .ok (.aload_n 0, 1) := by decide +kernel
theorem dX13_sum_1 : decode cX13_sum 1 = .ok (.invokevirtual 259, 3) := by decide +kernel
theorem dX13_sum_4 : decode cX13_sum 4 = .ok (.aload_n 0, 1) := by decide +kernel
theorem dX13_sum_5 : decode cX13_sum 5 = .ok (.getfield 194, 3) := by decide +kernel
theorem dX13_sum_8 : decode cX13_sum 8 = .ok (.ifCond .ne 59, 3) := by decide +kernel
theorem dX13_sum_11 : decode cX13_sum 11 = .ok (.aload_n 0, 1) := by decide +kernel
theorem dX13_sum_12 : decode cX13_sum 12 = .ok (.invokevirtual 200, 3) := by decide +kernel
theorem dX13_sum_15 : decode cX13_sum 15 = .ok (.bipush 43, 2) := by decide +kernel
theorem dX13_sum_17 : decode cX13_sum 17 = .ok (.if_icmp .eq 12, 3) := by decide +kernel
theorem dX13_sum_20 : decode cX13_sum 20 = .ok (.aload_n 0, 1) := by decide +kernel
theorem dX13_sum_21 : decode cX13_sum 21 = .ok (.invokevirtual 200, 3) := by decide +kernel
theorem dX13_sum_24 : decode cX13_sum 24 = .ok (.bipush 45, 2) := by decide +kernel
theorem dX13_sum_26 : decode cX13_sum 26 = .ok (.if_icmp .ne 41, 3) := by decide +kernel
theorem dX13_sum_29 : decode cX13_sum 29 = .ok (.aload_n 0, 1) := by decide +kernel
theorem dX13_sum_30 : decode cX13_sum 30 = .ok (.invokevirtual 200, 3) := by decide +kernel
theorem dX13_sum_33 : decode cX13_sum 33 = .ok (.bipush 43, 2) := by decide +kernel
theorem dX13_sum_35 : decode cX13_sum 35 = .ok (.if_icmp .ne 7, 3) := by decide +kernel
theorem dX13_sum_38 : decode cX13_sum 38 = .ok (.iconst 2, 1) := by decide +kernel
theorem dX13_sum_39 : decode cX13_sum 39 = .ok (.goto 4, 3) := by decide +kernel
theorem dX13_sum_42 : decode cX13_sum 42 = .ok (.iconst 3, 1) := by decide +kernel
theorem dX13_sum_43 : decode cX13_sum 43 = .ok (.istore_n 1, 1) := by decide +kernel
theorem dX13_sum_44 : decode cX13_sum 44 = .ok (.aload_n 0, 1) := by decide +kernel
theorem dX13_sum_45 : decode cX13_sum 45 = .ok (.dup, 1) := by decide +kernel
theorem dX13_sum_46 : decode cX13_sum 46 = .ok (.getfield 197, 3) := by decide +kernel
theorem dX13_sum_49 : decode cX13_sum 49 = .ok (.iconst 1, 1) := by decide +kernel
theorem dX13_sum_50 : decode cX13_sum 50 = .ok (.iadd, 1) := by decide +kernel
theorem dX13_sum_51 : decode cX13_sum 51 = .ok (.putfield 197, 3) := by decide +kernel
theorem dX13_sum_54 : decode cX13_sum 54 = .ok (.aload_n 0, 1) := by decide +kernel
theorem dX13_sum_55 : decode cX13_sum 55 = .ok (.invokevirtual 259, 3) := by decide +kernel
theorem dX13_sum_58 : decode cX13_sum 58 = .ok (.aload_n 0, 1) := by decide +kernel
theorem dX13_sum_59 : decode cX13_sum 59 = .ok (.iload_n 1, 1) := by decide +kernel
theorem dX13_sum_60 : decode cX13_sum 60 = .ok (.iconst 0, 1) := by decide +kernel
theorem dX13_sum_61 : decode cX13_sum 61 = .ok (.invokevirtual 249, 3) := by decide +kernel
theorem dX13_sum_64 : decode cX13_sum 64 = .ok (.goto (-60), 3) := by decide +kernel
theorem dX13_sum_67 : decode cX13_sum 67 = .ok (.return_, 1) := by decide +kernel
theorem dX13_compared_0 : decode cX13_compared 0 = .ok (.aload_n 0, 1) := by decide +kernel
theorem dX13_compared_1 : decode cX13_compared 1 = .ok (.invokevirtual 261, 3) := by decide +kernel
theorem dX13_compared_4 : decode cX13_compared 4 = .ok (.aload_n 0, 1) := by decide +kernel
theorem dX13_compared_5 : decode cX13_compared 5 = .ok (.invokevirtual 200, 3) := by decide +kernel
theorem dX13_compared_8 : decode cX13_compared 8 = .ok (.istore_n 1, 1) := by decide +kernel
theorem dX13_compared_9 : decode cX13_compared 9 = .ok (.iload_n 1, 1) := by decide +kernel
theorem dX13_compared_10 : decode cX13_compared 10 = .ok (.bipush 60, 2) := by decide +kernel
theorem dX13_compared_12 : decode cX13_compared 12 = .ok (.if_icmp .eq 25, 3) := by decide +kernel
theorem dX13_compared_15 : decode cX13_compared 15 = .ok (.iload_n 1, 1) := by decide +kernel
theorem dX13_compared_16 : decode cX13_compared 16 = .ok (.bipush 61, 2) := by decide +kernel
theorem dX13_compared_18 : decode cX13_compared 18 = .ok (.if_icmp .eq 19, 3) := by decide +kernel
theorem dX13_compared_21 : decode cX13_compared 21 = .ok (.iload_n 1, 1) := by decide +kernel
theorem dX13_compared_22 : decode cX13_compared 22 = .ok (.bipush 62, 2) := by decide +kernel
theorem dX13_compared_24 : decode cX13_compared 24 = .ok (.if_icmp .eq 13, 3) := by decide +kernel
theorem dX13_compared_27 : decode cX13_compared 27 = .ok (.aload_n 0, 1) := by decide +kernel
theorem dX13_compared_28 : decode cX13_compared 28 = .ok (.iconst 0, 1) := by decide +kernel
theorem dX13_compared_29 : decode cX13_compared 29 = .ok (.aload_n 0, 1) := by decide +kernel
theorem dX13_compared_30 : decode cX13_compared 30 = .ok (.getfield 197, 3) := by decide +kernel
theorem dX13_compared_33 : decode cX13_compared 33 = .ok (.invokevirtual 233, 3) := by decide +kernel
theorem dX13_compared_36 : decode cX13_compared 36 = .ok (.return_, 1) := by decide +kernel
theorem dX13_compared_37 : decode cX13_compared 37 = .ok (.aload_n 0, 1) := by decide +kernel
theorem dX13_compared_38 : decode cX13_compared 38 = .ok (.aload_n 0, 1) := by decide +kernel
theorem dX13_compared_39 : decode cX13_compared 39 = .ok (.getfield 197, 3) := by decide +kernel
theorem dX13_compared_42 : decode cX13_compared 42 = .ok (.invokevirtual 246, 3) := by decide +kernel
theorem dX13_compared_45 : decode cX13_compared 45 = .ok (.aload_n 0, 1) := by decide +kernel
theorem dX13_compared_46 : decode cX13_compared 46 = .ok (.dup, 1) := by decide +kernel
theorem dX13_compared_47 : decode cX13_compared 47 = .ok (.getfield 197, 3) := by decide +kernel
theorem dX13_compared_50 : decode cX13_compared 50 = .ok (.iconst 1, 1) := by decide +kernel
theorem dX13_compared_51 : decode cX13_compared 51 = .ok (.iadd, 1) := by decide +kernel
theorem dX13_compared_52 : decode cX13_compared 52 = .ok (.putfield 197, 3) := by decide +kernel
theorem dX13_compared_55 : decode cX13_compared 55 = .ok (.iload_n 1, 1) := by decide +kernel
theorem dX13_compared_56 : decode cX13_compared 56 = .ok (.bipush 61, 2) := by decide +kernel
theorem dX13_compared_58 : decode cX13_compared 58 = .ok (.if_icmp .eq 16, 3) := by decide +kernel
theorem dX13_compared_61 : decode cX13_compared 61 = .ok (.aload_n 0, 1) := by decide +kernel
theorem dX13_compared_62 : decode cX13_compared 62 = .ok (.invokevirtual 200, 3) := by decide +kernel
theorem dX13_compared_65 : decode cX13_compared 65 = .ok (.bipush 61, 2) := by decide +kernel
theorem dX13_compared_67 : decode cX13_compared 67 = .ok (.if_icmp .ne 7, 3) := by decide +kernel
theorem dX13_compared_70 : decode cX13_compared 70 = .ok (.iconst 1, 1) := by decide +kernel
theorem dX13_compared_71 : decode cX13_compared 71 = .ok (.goto 4, 3) := by decide +kernel
theorem dX13_compared_74 : decode cX13_compared 74 = .ok (.iconst 0, 1) := by decide +kernel
theorem dX13_compared_75 : decode cX13_compared 75 = .ok (.istore_n 2, 1) := by decide +kernel
theorem dX13_compared_76 : decode cX13_compared 76 = .ok (.aload_n 0, 1) := by decide +kernel
theorem dX13_compared_77 : decode cX13_compared 77 = .ok (.dup, 1) := by decide +kernel
theorem dX13_compared_78 : decode cX13_compared 78 = .ok (.getfield 197, 3) := by decide +kernel
theorem dX13_compared_81 : decode cX13_compared 81 = .ok (.iload_n 2, 1) := by decide +kernel
theorem dX13_compared_82 : decode cX13_compared 82 = .ok (.ifCond .eq 7, 3) := by decide +kernel
theorem dX13_compared_85 : decode cX13_compared 85 = .ok (.iconst 1, 1) := by decide +kernel
theorem dX13_compared_86 : decode cX13_compared 86 = .ok (.goto 4, 3) := by decide +kernel
theorem dX13_compared_89 : decode cX13_compared 89 = .ok (.iconst 0, 1) := by decide +kernel
theorem dX13_compared_90 : decode cX13_compared 90 = .ok (.iadd, 1) := by decide +kernel
theorem dX13_compared_91 : decode cX13_compared 91 = .ok (.putfield 197, 3) := by decide +kernel
theorem dX13_compared_94 : decode cX13_compared 94 = .ok (.aload_n 0, 1) := by decide +kernel
theorem dX13_compared_95 : decode cX13_compared 95 = .ok (.invokevirtual 261, 3) := by decide +kernel
theorem dX13_compared_98 : decode cX13_compared 98 = .ok (.aload_n 0, 1) := by decide +kernel
theorem dX13_compared_99 : decode cX13_compared 99 = .ok (.iload_n 1, 1) := by decide +kernel
theorem dX13_compared_100 : decode cX13_compared 100 = .ok (.bipush 61, 2) := by decide +kernel
theorem dX13_compared_102 : decode cX13_compared 102 = .ok (.if_icmp .ne 8, 3) := by decide +kernel
theorem dX13_compared_105 : decode cX13_compared 105 = .ok (.bipush 6, 2) := by decide +kernel
theorem dX13_compared_107 : decode cX13_compared 107 = .ok (.goto 32, 3) := by decide +kernel
theorem dX13_compared_110 : decode cX13_compared 110 = .ok (.iload_n 1, 1) := by decide +kernel
theorem dX13_compared_111 : decode cX13_compared 111 = .ok (.bipush 60, 2) := by decide +kernel
theorem dX13_compared_113 : decode cX13_compared 113 = .ok (.if_icmp .ne 15, 3) := by decide +kernel
theorem dX13_compared_116 : decode cX13_compared 116 = .ok (.iload_n 2, 1) := by decide +kernel
theorem dX13_compared_117 : decode cX13_compared 117 = .ok (.ifCond .eq 7, 3) := by decide +kernel
theorem dX13_compared_120 : decode cX13_compared 120 = .ok (.iconst 5, 1) := by decide +kernel
theorem dX13_compared_121 : decode cX13_compared 121 = .ok (.goto 18, 3) := by decide +kernel
theorem dX13_compared_124 : decode cX13_compared 124 = .ok (.iconst 4, 1) := by decide +kernel
theorem dX13_compared_125 : decode cX13_compared 125 = .ok (.goto 14, 3) := by decide +kernel
theorem dX13_compared_128 : decode cX13_compared 128 = .ok (.iload_n 2, 1) := by decide +kernel
theorem dX13_compared_129 : decode cX13_compared 129 = .ok (.ifCond .eq 8, 3) := by decide +kernel
theorem dX13_compared_132 : decode cX13_compared 132 = .ok (.bipush 7, 2) := by decide +kernel
theorem dX13_compared_134 : decode cX13_compared 134 = .ok (.goto 5, 3) := by decide +kernel
theorem dX13_compared_137 : decode cX13_compared 137 = .ok (.bipush 8, 2) := by decide +kernel
theorem dX13_compared_139 : decode cX13_compared 139 = .ok (.iconst 0, 1) := by decide +kernel
theorem dX13_compared_140 : decode cX13_compared 140 = .ok (.invokevirtual 249, 3) := by decide +kernel
theorem dX13_compared_143 : decode cX13_compared 143 = .ok (.return_, 1) := by decide +kernel
theorem dX13_top_0 : decode cX13_top 0 = .ok (.aload_n 0, 1) := by decide +kernel
theorem dX13_top_1 : decode cX13_top 1 = .ok (.getfield 264, 3) := by decide +kernel
theorem dX13_top_4 : decode cX13_top 4 = .ok (.ifCond .ne 7, 3) := by decide +kernel
theorem dX13_top_7 : decode cX13_top 7 = .ok (.iconst (-1), 1) := by decide +kernel
theorem dX13_top_8 : decode cX13_top 8 = .ok (.goto 14, 3) := by decide +kernel
theorem dX13_top_11 : decode cX13_top 11 = .ok (.aload_n 0, 1) := by decide +kernel
theorem dX13_top_12 : decode cX13_top 12 = .ok (.getfield 117, 3) := by decide +kernel
theorem dX13_top_15 : decode cX13_top 15 = .ok (.aload_n 0, 1) := by decide +kernel
theorem dX13_top_16 : decode cX13_top 16 = .ok (.getfield 264, 3) := by decide +kernel
theorem dX13_top_19 : decode cX13_top 19 = .ok (.iconst 1, 1) := by decide +kernel
theorem dX13_top_20 : decode cX13_top 20 = .ok (.isub, 1) := by decide +kernel
theorem dX13_top_21 : decode cX13_top 21 = .ok (.iaload, 1) := by decide +kernel
theorem dX13_top_22 : decode cX13_top 22 = .ok (.ireturn, 1) := by decide +kernel
theorem dX13_opens_0 : decode cX13_opens 0 = .ok (.iload_n 1, 1) := by decide +kernel
theorem dX13_opens_1 : decode cX13_opens 1 = .ok (.bipush 9, 2) := by decide +kernel
theorem dX13_opens_3 : decode cX13_opens 3 = .ok (.if_icmp .eq 9, 3) := by decide +kernel
theorem dX13_opens_6 : decode cX13_opens 6 = .ok (.iload_n 1, 1) := by decide +kernel
theorem dX13_opens_7 : decode cX13_opens 7 = .ok (.bipush 12, 2) := by decide +kernel
