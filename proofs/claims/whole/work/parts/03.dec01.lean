theorem dX2_fillGains_136 : decode cX2_fillGains 136 = .ok (.iload_n 2, 1) := by decide +kernel
theorem dX2_fillGains_137 : decode cX2_fillGains 137 = .ok (.iaload, 1) := by decide +kernel
theorem dX2_fillGains_138 : decode cX2_fillGains 138 = .ok (.aload_n 0, 1) := by decide +kernel
theorem dX2_fillGains_139 : decode cX2_fillGains 139 = .ok (.getfield 29, 3) := by decide +kernel
theorem dX2_fillGains_142 : decode cX2_fillGains 142 = .ok (.getfield 37, 3) := by decide +kernel
theorem dX2_fillGains_145 : decode cX2_fillGains 145 = .ok (.getfield 75, 3) := by decide +kernel
theorem dX2_fillGains_148 : decode cX2_fillGains 148 = .ok (.iload_n 2, 1) := by decide +kernel
theorem dX2_fillGains_149 : decode cX2_fillGains 149 = .ok (.iaload, 1) := by decide +kernel
theorem dX2_fillGains_150 : decode cX2_fillGains 150 = .ok (.isub, 1) := by decide +kernel
theorem dX2_fillGains_151 : decode cX2_fillGains 151 = .ok (.iastore, 1) := by decide +kernel
theorem dX2_fillGains_152 : decode cX2_fillGains 152 = .ok (.iinc 5 1, 3) := by decide +kernel
theorem dX2_fillGains_155 : decode cX2_fillGains 155 = .ok (.goto (-134), 3) := by decide +kernel
theorem dX2_fillGains_158 : decode cX2_fillGains 158 = .ok (.iinc 4 1, 3) := by decide +kernel
theorem dX2_fillGains_161 : decode cX2_fillGains 161 = .ok (.goto (-158), 3) := by decide +kernel
theorem dX2_fillGains_164 : decode cX2_fillGains 164 = .ok (.return_, 1) := by decide +kernel
theorem dX2_rest_0 : decode cX2_rest 0 = .ok (.iload_n 1, 1) := by decide +kernel
theorem dX2_rest_1 : decode cX2_rest 1 = .ok (.bipush 8, 2) := by decide +kernel
theorem dX2_rest_3 : decode cX2_rest 3 = .ok (.imul, 1) := by decide +kernel
theorem dX2_rest_4 : decode cX2_rest 4 = .ok (.iload_n 2, 1) := by decide +kernel
theorem dX2_rest_5 : decode cX2_rest 5 = .ok (.iadd, 1) := by decide +kernel
theorem dX2_rest_6 : decode cX2_rest 6 = .ok (.istore_n 3, 1) := by decide +kernel
theorem dX2_rest_7 : decode cX2_rest 7 = .ok (.iconst 0, 1) := by decide +kernel
theorem dX2_rest_8 : decode cX2_rest 8 = .ok (.istore 4, 2) := by decide +kernel
theorem dX2_rest_10 : decode cX2_rest 10 = .ok (.iload 4, 2) := by decide +kernel
theorem dX2_rest_12 : decode cX2_rest 12 = .ok (.aload_n 0, 1) := by decide +kernel
theorem dX2_rest_13 : decode cX2_rest 13 = .ok (.getfield 29, 3) := by decide +kernel
theorem dX2_rest_16 : decode cX2_rest 16 = .ok (.getfield 63, 3) := by decide +kernel
theorem dX2_rest_19 : decode cX2_rest 19 = .ok (.getfield 67, 3) := by decide +kernel
theorem dX2_rest_22 : decode cX2_rest 22 = .ok (.if_icmp .ge 53, 3) := by decide +kernel
theorem dX2_rest_25 : decode cX2_rest 25 = .ok (.aload_n 0, 1) := by decide +kernel
theorem dX2_rest_26 : decode cX2_rest 26 = .ok (.getfield 22, 3) := by decide +kernel
theorem dX2_rest_29 : decode cX2_rest 29 = .ok (.iload 4, 2) := by decide +kernel
theorem dX2_rest_31 : decode cX2_rest 31 = .ok (.bipush 8, 2) := by decide +kernel
theorem dX2_rest_33 : decode cX2_rest 33 = .ok (.imul, 1) := by decide +kernel
theorem dX2_rest_34 : decode cX2_rest 34 = .ok (.iload_n 2, 1) := by decide +kernel
theorem dX2_rest_35 : decode cX2_rest 35 = .ok (.iadd, 1) := by decide +kernel
theorem dX2_rest_36 : decode cX2_rest 36 = .ok (.iaload, 1) := by decide +kernel
theorem dX2_rest_37 : decode cX2_rest 37 = .ok (.aload_n 0, 1) := by decide +kernel
theorem dX2_rest_38 : decode cX2_rest 38 = .ok (.getfield 22, 3) := by decide +kernel
theorem dX2_rest_41 : decode cX2_rest 41 = .ok (.iload_n 3, 1) := by decide +kernel
theorem dX2_rest_42 : decode cX2_rest 42 = .ok (.iaload, 1) := by decide +kernel
theorem dX2_rest_43 : decode cX2_rest 43 = .ok (.if_icmp .gt 24, 3) := by decide +kernel
theorem dX2_rest_46 : decode cX2_rest 46 = .ok (.aload_n 0, 1) := by decide +kernel
theorem dX2_rest_47 : decode cX2_rest 47 = .ok (.getfield 26, 3) := by decide +kernel
theorem dX2_rest_50 : decode cX2_rest 50 = .ok (.iload_n 1, 1) := by decide +kernel
theorem dX2_rest_51 : decode cX2_rest 51 = .ok (.bipush 8, 2) := by decide +kernel
theorem dX2_rest_53 : decode cX2_rest 53 = .ok (.imul, 1) := by decide +kernel
theorem dX2_rest_54 : decode cX2_rest 54 = .ok (.iload 4, 2) := by decide +kernel
theorem dX2_rest_56 : decode cX2_rest 56 = .ok (.iadd, 1) := by decide +kernel
theorem dX2_rest_57 : decode cX2_rest 57 = .ok (.iaload, 1) := by decide +kernel
theorem dX2_rest_58 : decode cX2_rest 58 = .ok (.aload_n 0, 1) := by decide +kernel
theorem dX2_rest_59 : decode cX2_rest 59 = .ok (.getfield 26, 3) := by decide +kernel
theorem dX2_rest_62 : decode cX2_rest 62 = .ok (.iload_n 3, 1) := by decide +kernel
theorem dX2_rest_63 : decode cX2_rest 63 = .ok (.iaload, 1) := by decide +kernel
theorem dX2_rest_64 : decode cX2_rest 64 = .ok (.if_icmp .le 5, 3) := by decide +kernel
theorem dX2_rest_67 : decode cX2_rest 67 = .ok (.iconst 0, 1) := by decide +kernel
theorem dX2_rest_68 : decode cX2_rest 68 = .ok (.ireturn, 1) := by decide +kernel
theorem dX2_rest_69 : decode cX2_rest 69 = .ok (.iinc 4 1, 3) := by decide +kernel
theorem dX2_rest_72 : decode cX2_rest 72 = .ok (.goto (-62), 3) := by decide +kernel
theorem dX2_rest_75 : decode cX2_rest 75 = .ok (.iconst 1, 1) := by decide +kernel
theorem dX2_rest_76 : decode cX2_rest 76 = .ok (.ireturn, 1) := by decide +kernel
theorem dX2_drawn_0 : decode cX2_drawn 0 = .ok (.aload_n 0, 1) := by decide +kernel
theorem dX2_drawn_1 : decode cX2_drawn 1 = .ok (.aload_n 0, 1) := by decide +kernel
theorem dX2_drawn_2 : decode cX2_drawn 2 = .ok (.getfield 29, 3) := by decide +kernel
theorem dX2_drawn_5 : decode cX2_drawn 5 = .ok (.getfield 133, 3) := by decide +kernel
theorem dX2_drawn_8 : decode cX2_drawn 8 = .ok (.putfield 136, 3) := by decide +kernel
theorem dX2_drawn_11 : decode cX2_drawn 11 = .ok (.iconst 0, 1) := by decide +kernel
theorem dX2_drawn_12 : decode cX2_drawn 12 = .ok (.istore 5, 2) := by decide +kernel
theorem dX2_drawn_14 : decode cX2_drawn 14 = .ok (.iconst 0, 1) := by decide +kernel
theorem dX2_drawn_15 : decode cX2_drawn 15 = .ok (.istore 6, 2) := by decide +kernel
theorem dX2_drawn_17 : decode cX2_drawn 17 = .ok (.iconst 0, 1) := by decide +kernel
theorem dX2_drawn_18 : decode cX2_drawn 18 = .ok (.istore 7, 2) := by decide +kernel
theorem dX2_drawn_20 : decode cX2_drawn 20 = .ok (.iload 7, 2) := by decide +kernel
theorem dX2_drawn_22 : decode cX2_drawn 22 = .ok (.iload_n 1, 1) := by decide +kernel
theorem dX2_drawn_23 : decode cX2_drawn 23 = .ok (.if_icmp .ge 92, 3) := by decide +kernel
theorem dX2_drawn_26 : decode cX2_drawn 26 = .ok (.aload_n 0, 1) := by decide +kernel
theorem dX2_drawn_27 : decode cX2_drawn 27 = .ok (.getfield 12, 3) := by decide +kernel
theorem dX2_drawn_30 : decode cX2_drawn 30 = .ok (.aload_n 0, 1) := by decide +kernel
theorem dX2_drawn_31 : decode cX2_drawn 31 = .ok (.getfield 29, 3) := by decide +kernel
theorem dX2_drawn_34 : decode cX2_drawn 34 = .ok (.getfield 37, 3) := by decide +kernel
theorem dX2_drawn_37 : decode cX2_drawn 37 = .ok (.invokevirtual 42, 3) := by decide +kernel
theorem dX2_drawn_40 : decode cX2_drawn 40 = .ok (.iconst 0, 1) := by decide +kernel
theorem dX2_drawn_41 : decode cX2_drawn 41 = .ok (.istore 8, 2) := by decide +kernel
theorem dX2_drawn_43 : decode cX2_drawn 43 = .ok (.iload 8, 2) := by decide +kernel
theorem dX2_drawn_45 : decode cX2_drawn 45 = .ok (.iload_n 2, 1) := by decide +kernel
theorem dX2_drawn_46 : decode cX2_drawn 46 = .ok (.if_icmp .ge 40, 3) := by decide +kernel
theorem dX2_drawn_49 : decode cX2_drawn 49 = .ok (.aload_n 0, 1) := by decide +kernel
theorem dX2_drawn_50 : decode cX2_drawn 50 = .ok (.invokevirtual 137, 3) := by decide +kernel
theorem dX2_drawn_53 : decode cX2_drawn 53 = .ok (.bipush 100, 2) := by decide +kernel
theorem dX2_drawn_55 : decode cX2_drawn 55 = .ok (.irem, 1) := by decide +kernel
theorem dX2_drawn_56 : decode cX2_drawn 56 = .ok (.iload_n 3, 1) := by decide +kernel
theorem dX2_drawn_57 : decode cX2_drawn 57 = .ok (.if_icmp .ge 7, 3) := by decide +kernel
theorem dX2_drawn_60 : decode cX2_drawn 60 = .ok (.aload_n 0, 1) := by decide +kernel
theorem dX2_drawn_61 : decode cX2_drawn 61 = .ok (.invokevirtual 141, 3) := by decide +kernel
theorem dX2_drawn_64 : decode cX2_drawn 64 = .ok (.iload 6, 2) := by decide +kernel
theorem dX2_drawn_66 : decode cX2_drawn 66 = .ok (.aload_n 0, 1) := by decide +kernel
theorem dX2_drawn_67 : decode cX2_drawn 67 = .ok (.getfield 33, 3) := by decide +kernel
theorem dX2_drawn_70 : decode cX2_drawn 70 = .ok (.aload_n 0, 1) := by decide +kernel
theorem dX2_drawn_71 : decode cX2_drawn 71 = .ok (.getfield 12, 3) := by decide +kernel
theorem dX2_drawn_74 : decode cX2_drawn 74 = .ok (.invokevirtual 59, 3) := by decide +kernel
theorem dX2_drawn_77 : decode cX2_drawn 77 = .ok (.iadd, 1) := by decide +kernel
theorem dX2_drawn_78 : decode cX2_drawn 78 = .ok (.istore 6, 2) := by decide +kernel
theorem dX2_drawn_80 : decode cX2_drawn 80 = .ok (.iinc 8 1, 3) := by decide +kernel
theorem dX2_drawn_83 : decode cX2_drawn 83 = .ok (.goto (-40), 3) := by decide +kernel
theorem dX2_drawn_86 : decode cX2_drawn 86 = .ok (.iload 5, 2) := by decide +kernel
theorem dX2_drawn_88 : decode cX2_drawn 88 = .ok (.aload_n 0, 1) := by decide +kernel
theorem dX2_drawn_89 : decode cX2_drawn 89 = .ok (.getfield 12, 3) := by decide +kernel
theorem dX2_drawn_92 : decode cX2_drawn 92 = .ok (.getfield 100, 3) := by decide +kernel
theorem dX2_drawn_95 : decode cX2_drawn 95 = .ok (.aload_n 0, 1) := by decide +kernel
theorem dX2_drawn_96 : decode cX2_drawn 96 = .ok (.getfield 29, 3) := by decide +kernel
theorem dX2_drawn_99 : decode cX2_drawn 99 = .ok (.getfield 37, 3) := by decide +kernel
theorem dX2_drawn_102 : decode cX2_drawn 102 = .ok (.getfield 100, 3) := by decide +kernel
theorem dX2_drawn_105 : decode cX2_drawn 105 = .ok (.isub, 1) := by decide +kernel
theorem dX2_drawn_106 : decode cX2_drawn 106 = .ok (.iadd, 1) := by decide +kernel
theorem dX2_drawn_107 : decode cX2_drawn 107 = .ok (.istore 5, 2) := by decide +kernel
theorem dX2_drawn_109 : decode cX2_drawn 109 = .ok (.iinc 7 1, 3) := by decide +kernel
theorem dX2_drawn_112 : decode cX2_drawn 112 = .ok (.goto (-92), 3) := by decide +kernel
theorem dX2_drawn_115 : decode cX2_drawn 115 = .ok (.iload 4, 2) := by decide +kernel
theorem dX2_drawn_117 : decode cX2_drawn 117 = .ok (.ifCond .ne 8, 3) := by decide +kernel
theorem dX2_drawn_120 : decode cX2_drawn 120 = .ok (.iload 5, 2) := by decide +kernel
theorem dX2_drawn_122 : decode cX2_drawn 122 = .ok (.goto 5, 3) := by decide +kernel
theorem dX2_drawn_125 : decode cX2_drawn 125 = .ok (.iload 6, 2) := by decide +kernel
theorem dX2_drawn_127 : decode cX2_drawn 127 = .ok (.ireturn, 1) := by decide +kernel
theorem dX2_placeByDraw_0 : decode cX2_placeByDraw 0 = .ok (.aload_n 0, 1) := by decide +kernel
theorem dX2_placeByDraw_1 : decode cX2_placeByDraw 1 = .ok (.getfield 29, 3) := by decide +kernel
theorem dX2_placeByDraw_4 : decode cX2_placeByDraw 4 = .ok (.getfield 63, 3) := by decide +kernel
theorem dX2_placeByDraw_7 : decode cX2_placeByDraw 7 = .ok (.getfield 144, 3) := by decide +kernel
theorem dX2_placeByDraw_10 : decode cX2_placeByDraw 10 = .ok (.istore_n 1, 1) := by decide +kernel
theorem dX2_placeByDraw_11 : decode cX2_placeByDraw 11 = .ok (.aload_n 0, 1) := by decide +kernel
theorem dX2_placeByDraw_12 : decode cX2_placeByDraw 12 = .ok (.getfield 29, 3) := by decide +kernel
theorem dX2_placeByDraw_15 : decode cX2_placeByDraw 15 = .ok (.getfield 63, 3) := by decide +kernel
theorem dX2_placeByDraw_18 : decode cX2_placeByDraw 18 = .ok (.getfield 67, 3) := by decide +kernel
theorem dX2_placeByDraw_21 : decode cX2_placeByDraw 21 = .ok (.istore_n 2, 1) := by decide +kernel
theorem dX2_placeByDraw_22 : decode cX2_placeByDraw 22 = .ok (.iload_n 1, 1) := by decide +kernel
theorem dX2_placeByDraw_23 : decode cX2_placeByDraw 23 = .ok (.ifCond .le 29, 3) := by decide +kernel
theorem dX2_placeByDraw_26 : decode cX2_placeByDraw 26 = .ok (.iload_n 2, 1) := by decide +kernel
theorem dX2_placeByDraw_27 : decode cX2_placeByDraw 27 = .ok (.ifCond .le 25, 3) := by decide +kernel
theorem dX2_placeByDraw_30 : decode cX2_placeByDraw 30 = .ok (.aload_n 0, 1) := by decide +kernel
theorem dX2_placeByDraw_31 : decode cX2_placeByDraw 31 = .ok (.invokevirtual 137, 3) := by decide +kernel
theorem dX2_placeByDraw_34 : decode cX2_placeByDraw 34 = .ok (.iload_n 1, 1) := by decide +kernel
theorem dX2_placeByDraw_35 : decode cX2_placeByDraw 35 = .ok (.irem, 1) := by decide +kernel
theorem dX2_placeByDraw_36 : decode cX2_placeByDraw 36 = .ok (.istore_n 3, 1) := by decide +kernel
theorem dX2_placeByDraw_37 : decode cX2_placeByDraw 37 = .ok (.aload_n 0, 1) := by decide +kernel
theorem dX2_placeByDraw_38 : decode cX2_placeByDraw 38 = .ok (.getfield 12, 3) := by decide +kernel
theorem dX2_placeByDraw_41 : decode cX2_placeByDraw 41 = .ok (.getfield 72, 3) := by decide +kernel
theorem dX2_placeByDraw_44 : decode cX2_placeByDraw 44 = .ok (.iload_n 3, 1) := by decide +kernel
theorem dX2_placeByDraw_45 : decode cX2_placeByDraw 45 = .ok (.aload_n 0, 1) := by decide +kernel
theorem dX2_placeByDraw_46 : decode cX2_placeByDraw 46 = .ok (.invokevirtual 137, 3) := by decide +kernel
theorem dX2_placeByDraw_49 : decode cX2_placeByDraw 49 = .ok (.iload_n 2, 1) := by decide +kernel
theorem dX2_placeByDraw_50 : decode cX2_placeByDraw 50 = .ok (.irem, 1) := by decide +kernel
theorem dX2_placeByDraw_51 : decode cX2_placeByDraw 51 = .ok (.iastore, 1) := by decide +kernel
theorem dX2_placeByDraw_52 : decode cX2_placeByDraw 52 = .ok (.return_, 1) := by decide +kernel
theorem dX2_draw_0 : decode cX2_draw 0 = .ok (.aload_n 0, 1) := by decide +kernel
theorem dX2_draw_1 : decode cX2_draw 1 = .ok (.aload_n 0, 1) := by decide +kernel
theorem dX2_draw_2 : decode cX2_draw 2 = .ok (.getfield 136, 3) := by decide +kernel
theorem dX2_draw_5 : decode cX2_draw 5 = .ok (.ldc 147, 2) := by decide +kernel
theorem dX2_draw_7 : decode cX2_draw 7 = .ok (.imul, 1) := by decide +kernel
theorem dX2_draw_8 : decode cX2_draw 8 = .ok (.sipush 12345, 3) := by decide +kernel
theorem dX2_draw_11 : decode cX2_draw 11 = .ok (.iadd, 1) := by decide +kernel
theorem dX2_draw_12 : decode cX2_draw 12 = .ok (.ldc 148, 2) := by decide +kernel
theorem dX2_draw_14 : decode cX2_draw 14 = .ok (.iand, 1) := by decide +kernel
theorem dX2_draw_15 : decode cX2_draw 15 = .ok (.putfield 136, 3) := by decide +kernel
theorem dX2_draw_18 : decode cX2_draw 18 = .ok (.aload_n 0, 1) := by decide +kernel
theorem dX2_draw_19 : decode cX2_draw 19 = .ok (.getfield 136, 3) := by decide +kernel
theorem dX2_draw_22 : decode cX2_draw 22 = .ok (.ldc 149, 2) := by decide +kernel
theorem dX2_draw_24 : decode cX2_draw 24 = .ok (.idiv, 1) := by decide +kernel
theorem dX2_draw_25 : decode cX2_draw 25 = .ok (.ireturn, 1) := by decide +kernel
theorem dX3_init_0 : decode cX3_init 0 = .ok (.aload_n 0, 1) := by decide +kernel
theorem dX3_init_1 : decode cX3_init 1 = .ok (.invokespecial 3, 3) := by decide +kernel
theorem dX3_init_4 : decode cX3_init 4 = .ok (.aload_n 0, 1) := by decide +kernel
theorem dX3_init_5 : decode cX3_init 5 = .ok (.bipush 20, 2) := by decide +kernel
theorem dX3_init_7 : decode cX3_init 7 = .ok (.anewarray 9, 3) := by decide +kernel
theorem dX3_init_10 : decode cX3_init 10 = .ok (.putfield 11, 3) := by decide +kernel
theorem dX3_init_13 : decode cX3_init 13 = .ok (.iconst 0, 1) := by decide +kernel
theorem dX3_init_14 : decode cX3_init 14 = .ok (.istore_n 1, 1) := by decide +kernel
theorem dX3_init_15 : decode cX3_init 15 = .ok (.iload_n 1, 1) := by decide +kernel
theorem dX3_init_16 : decode cX3_init 16 = .ok (.bipush 20, 2) := by decide +kernel
theorem dX3_init_18 : decode cX3_init 18 = .ok (.if_icmp .ge 22, 3) := by decide +kernel
theorem dX3_init_21 : decode cX3_init 21 = .ok (.aload_n 0, 1) := by decide +kernel
theorem dX3_init_22 : decode cX3_init 22 = .ok (.getfield 11, 3) := by decide +kernel
theorem dX3_init_25 : decode cX3_init 25 = .ok (.iload_n 1, 1) := by decide +kernel
theorem dX3_init_26 : decode cX3_init 26 = .ok (.new 9, 3) := by decide +kernel
theorem dX3_init_29 : decode cX3_init 29 = .ok (.dup, 1) := by decide +kernel
theorem dX3_init_30 : decode cX3_init 30 = .ok (.invokespecial 17, 3) := by decide +kernel
theorem dX3_init_33 : decode cX3_init 33 = .ok (.aastore, 1) := by decide +kernel
theorem dX3_init_34 : decode cX3_init 34 = .ok (.iinc 1 1, 3) := by decide +kernel
theorem dX3_init_37 : decode cX3_init 37 = .ok (.goto (-22), 3) := by decide +kernel
theorem dX3_init_40 : decode cX3_init 40 = .ok (.return_, 1) := by decide +kernel
theorem dX3_clear_0 : decode cX3_clear 0 = .ok (.aload_n 0, 1) := by decide +kernel
theorem dX3_clear_1 : decode cX3_clear 1 = .ok (.iconst 0, 1) := by decide +kernel
theorem dX3_clear_2 : decode cX3_clear 2 = .ok (.putfield 18, 3) := by decide +kernel
theorem dX3_clear_5 : decode cX3_clear 5 = .ok (.return_, 1) := by decide +kernel
theorem dX3_push_0 : decode cX3_push 0 = .ok (.aload_n 0, 1) := by decide +kernel
theorem dX3_push_1 : decode cX3_push 1 = .ok (.getfield 11, 3) := by decide +kernel
theorem dX3_push_4 : decode cX3_push 4 = .ok (.aload_n 0, 1) := by decide +kernel
theorem dX3_push_5 : decode cX3_push 5 = .ok (.getfield 22, 3) := by decide +kernel
theorem dX3_push_8 : decode cX3_push 8 = .ok (.aaload, 1) := by decide +kernel
theorem dX3_push_9 : decode cX3_push 9 = .ok (.aload_n 1, 1) := by decide +kernel
theorem dX3_push_10 : decode cX3_push 10 = .ok (.invokevirtual 25, 3) := by decide +kernel
theorem dX3_push_13 : decode cX3_push 13 = .ok (.aload_n 0, 1) := by decide +kernel
theorem dX3_push_14 : decode cX3_push 14 = .ok (.aload_n 0, 1) := by decide +kernel
theorem dX3_push_15 : decode cX3_push 15 = .ok (.getfield 22, 3) := by decide +kernel
theorem dX3_push_18 : decode cX3_push 18 = .ok (.iconst 1, 1) := by decide +kernel
theorem dX3_push_19 : decode cX3_push 19 = .ok (.iadd, 1) := by decide +kernel
theorem dX3_push_20 : decode cX3_push 20 = .ok (.bipush 20, 2) := by decide +kernel
theorem dX3_push_22 : decode cX3_push 22 = .ok (.irem, 1) := by decide +kernel
theorem dX3_push_23 : decode cX3_push 23 = .ok (.putfield 22, 3) := by decide +kernel
theorem dX3_push_26 : decode cX3_push 26 = .ok (.aload_n 0, 1) := by decide +kernel
theorem dX3_push_27 : decode cX3_push 27 = .ok (.aload_n 0, 1) := by decide +kernel
theorem dX3_push_28 : decode cX3_push 28 = .ok (.getfield 18, 3) := by decide +kernel
theorem dX3_push_31 : decode cX3_push 31 = .ok (.iconst 1, 1) := by decide +kernel
theorem dX3_push_32 : decode cX3_push 32 = .ok (.iadd, 1) := by decide +kernel
theorem dX3_push_33 : decode cX3_push 33 = .ok (.bipush 20, 2) := by decide +kernel
theorem dX3_push_35 : decode cX3_push 35 = .ok (.invokestatic 29, 3) := by decide +kernel
theorem dX3_push_38 : decode cX3_push 38 = .ok (.putfield 18, 3) := by decide +kernel
theorem dX3_push_41 : decode cX3_push 41 = .ok (.return_, 1) := by decide +kernel
theorem dX3_pop_0 : decode cX3_pop 0 = .ok (.aload_n 0, 1) := by decide +kernel
theorem dX3_pop_1 : decode cX3_pop 1 = .ok (.getfield 18, 3) := by decide +kernel
theorem dX3_pop_4 : decode cX3_pop 4 = .ok (.ifCond .ne 4, 3) := by decide +kernel
theorem dX3_pop_7 : decode cX3_pop 7 = .ok (.return_, 1) := by decide +kernel
theorem dX3_pop_8 : decode cX3_pop 8 = .ok (.aload_n 0, 1) := by decide +kernel
theorem dX3_pop_9 : decode cX3_pop 9 = .ok (.aload_n 0, 1) := by decide +kernel
theorem dX3_pop_10 : decode cX3_pop 10 = .ok (.getfield 22, 3) := by decide +kernel
theorem dX3_pop_13 : decode cX3_pop 13 = .ok (.bipush 20, 2) := by decide +kernel
theorem dX3_pop_15 : decode cX3_pop 15 = .ok (.iadd, 1) := by decide +kernel
theorem dX3_pop_16 : decode cX3_pop 16 = .ok (.iconst 1, 1) := by decide +kernel
theorem dX3_pop_17 : decode cX3_pop 17 = .ok (.isub, 1) := by decide +kernel
theorem dX3_pop_18 : decode cX3_pop 18 = .ok (.bipush 20, 2) := by decide +kernel
theorem dX3_pop_20 : decode cX3_pop 20 = .ok (.irem, 1) := by decide +kernel
theorem dX3_pop_21 : decode cX3_pop 21 = .ok (.putfield 22, 3) := by decide +kernel
theorem dX3_pop_24 : decode cX3_pop 24 = .ok (.aload_n 0, 1) := by decide +kernel
theorem dX3_pop_25 : decode cX3_pop 25 = .ok (.dup, 1) := by decide +kernel
theorem dX3_pop_26 : decode cX3_pop 26 = .ok (.getfield 18, 3) := by decide +kernel
theorem dX3_pop_29 : decode cX3_pop 29 = .ok (.iconst 1, 1) := by decide +kernel
theorem dX3_pop_30 : decode cX3_pop 30 = .ok (.isub, 1) := by decide +kernel
theorem dX3_pop_31 : decode cX3_pop 31 = .ok (.putfield 18, 3) := by decide +kernel
theorem dX3_pop_34 : decode cX3_pop 34 = .ok (.aload_n 1, 1) := by decide +kernel
theorem dX3_pop_35 : decode cX3_pop 35 = .ok (.aload_n 0, 1) := by decide +kernel
theorem dX3_pop_36 : decode cX3_pop 36 = .ok (.getfield 11, 3) := by decide +kernel
theorem dX3_pop_39 : decode cX3_pop 39 = .ok (.aload_n 0, 1) := by decide +kernel
theorem dX3_pop_40 : decode cX3_pop 40 = .ok (.getfield 22, 3) := by decide +kernel
theorem dX3_pop_43 : decode cX3_pop 43 = .ok (.aaload, 1) := by decide +kernel
theorem dX3_pop_44 : decode cX3_pop 44 = .ok (.invokevirtual 25, 3) := by decide +kernel
theorem dX3_pop_47 : decode cX3_pop 47 = .ok (.return_, 1) := by decide +kernel
theorem dX3_copyFrom_0 : decode cX3_copyFrom 0 = .ok (.aload_n 0, 1) := by decide +kernel
theorem dX3_copyFrom_1 : decode cX3_copyFrom 1 = .ok (.aload_n 1, 1) := by decide +kernel
theorem dX3_copyFrom_2 : decode cX3_copyFrom 2 = .ok (.getfield 18, 3) := by decide +kernel
theorem dX3_copyFrom_5 : decode cX3_copyFrom 5 = .ok (.putfield 18, 3) := by decide +kernel
theorem dX3_copyFrom_8 : decode cX3_copyFrom 8 = .ok (.aload_n 0, 1) := by decide +kernel
theorem dX3_copyFrom_9 : decode cX3_copyFrom 9 = .ok (.aload_n 1, 1) := by decide +kernel
theorem dX3_copyFrom_10 : decode cX3_copyFrom 10 = .ok (.getfield 22, 3) := by decide +kernel
theorem dX3_copyFrom_13 : decode cX3_copyFrom 13 = .ok (.putfield 22, 3) := by decide +kernel
theorem dX3_copyFrom_16 : decode cX3_copyFrom 16 = .ok (.iconst 1, 1) := by decide +kernel
theorem dX3_copyFrom_17 : decode cX3_copyFrom 17 = .ok (.istore_n 2, 1) := by decide +kernel
theorem dX3_copyFrom_18 : decode cX3_copyFrom 18 = .ok (.iload_n 2, 1) := by decide +kernel
theorem dX3_copyFrom_19 : decode cX3_copyFrom 19 = .ok (.aload_n 0, 1) := by decide +kernel
theorem dX3_copyFrom_20 : decode cX3_copyFrom 20 = .ok (.getfield 18, 3) := by decide +kernel
theorem dX3_copyFrom_23 : decode cX3_copyFrom 23 = .ok (.if_icmp .gt 37, 3) := by decide +kernel
theorem dX3_copyFrom_26 : decode cX3_copyFrom 26 = .ok (.aload_n 0, 1) := by decide +kernel
theorem dX3_copyFrom_27 : decode cX3_copyFrom 27 = .ok (.getfield 22, 3) := by decide +kernel
theorem dX3_copyFrom_30 : decode cX3_copyFrom 30 = .ok (.bipush 20, 2) := by decide +kernel
theorem dX3_copyFrom_32 : decode cX3_copyFrom 32 = .ok (.iadd, 1) := by decide +kernel
theorem dX3_copyFrom_33 : decode cX3_copyFrom 33 = .ok (.iload_n 2, 1) := by decide +kernel
theorem dX3_copyFrom_34 : decode cX3_copyFrom 34 = .ok (.isub, 1) := by decide +kernel
theorem dX3_copyFrom_35 : decode cX3_copyFrom 35 = .ok (.bipush 20, 2) := by decide +kernel
theorem dX3_copyFrom_37 : decode cX3_copyFrom 37 = .ok (.irem, 1) := by decide +kernel
theorem dX3_copyFrom_38 : decode cX3_copyFrom 38 = .ok (.istore_n 3, 1) := by decide +kernel
theorem dX3_copyFrom_39 : decode cX3_copyFrom 39 = .ok (.aload_n 0, 1) := by decide +kernel
theorem dX3_copyFrom_40 : decode cX3_copyFrom 40 = .ok (.getfield 11, 3) := by decide +kernel
theorem dX3_copyFrom_43 : decode cX3_copyFrom 43 = .ok (.iload_n 3, 1) := by decide +kernel
theorem dX3_copyFrom_44 : decode cX3_copyFrom 44 = .ok (.aaload, 1) := by decide +kernel
theorem dX3_copyFrom_45 : decode cX3_copyFrom 45 = .ok (.aload_n 1, 1) := by decide +kernel
theorem dX3_copyFrom_46 : decode cX3_copyFrom 46 = .ok (.getfield 11, 3) := by decide +kernel
theorem dX3_copyFrom_49 : decode cX3_copyFrom 49 = .ok (.iload_n 3, 1) := by decide +kernel
theorem dX3_copyFrom_50 : decode cX3_copyFrom 50 = .ok (.aaload, 1) := by decide +kernel
theorem dX3_copyFrom_51 : decode cX3_copyFrom 51 = .ok (.invokevirtual 25, 3) := by decide +kernel
theorem dX3_copyFrom_54 : decode cX3_copyFrom 54 = .ok (.iinc 2 1, 3) := by decide +kernel
theorem dX3_copyFrom_57 : decode cX3_copyFrom 57 = .ok (.goto (-39), 3) := by decide +kernel
theorem dX3_copyFrom_60 : decode cX3_copyFrom 60 = .ok (.return_, 1) := by decide +kernel
theorem dX4_init_0 : decode cX4_init 0 = .ok (.aload_n 0, 1) := by decide +kernel
theorem dX4_init_1 : decode cX4_init 1 = .ok (.invokespecial 3, 3) := by decide +kernel
theorem dX4_init_4 : decode cX4_init 4 = .ok (.aload_n 0, 1) := by decide +kernel
theorem dX4_init_5 : decode cX4_init 5 = .ok (.bipush 60, 2) := by decide +kernel
theorem dX4_init_7 : decode cX4_init 7 = .ok (.newarray .int, 2) := by decide +kernel
theorem dX4_init_9 : decode cX4_init 9 = .ok (.putfield 9, 3) := by decide +kernel
theorem dX4_init_12 : decode cX4_init 12 = .ok (.aload_n 0, 1) := by decide +kernel
theorem dX4_init_13 : decode cX4_init 13 = .ok (.bipush 60, 2) := by decide +kernel
theorem dX4_init_15 : decode cX4_init 15 = .ok (.newarray .int, 2) := by decide +kernel
theorem dX4_init_17 : decode cX4_init 17 = .ok (.putfield 15, 3) := by decide +kernel
theorem dX4_init_20 : decode cX4_init 20 = .ok (.aload_n 0, 1) := by decide +kernel
theorem dX4_init_21 : decode cX4_init 21 = .ok (.bipush 60, 2) := by decide +kernel
theorem dX4_init_23 : decode cX4_init 23 = .ok (.newarray .int, 2) := by decide +kernel
theorem dX4_init_25 : decode cX4_init 25 = .ok (.putfield 18, 3) := by decide +kernel
theorem dX4_init_28 : decode cX4_init 28 = .ok (.aload_n 0, 1) := by decide +kernel
theorem dX4_init_29 : decode cX4_init 29 = .ok (.bipush 60, 2) := by decide +kernel
theorem dX4_init_31 : decode cX4_init 31 = .ok (.newarray .int, 2) := by decide +kernel
theorem dX4_init_33 : decode cX4_init 33 = .ok (.putfield 21, 3) := by decide +kernel
theorem dX4_init_36 : decode cX4_init 36 = .ok (.aload_n 0, 1) := by decide +kernel
theorem dX4_init_37 : decode cX4_init 37 = .ok (.sipush 256, 3) := by decide +kernel
theorem dX4_init_40 : decode cX4_init 40 = .ok (.newarray .int, 2) := by decide +kernel
theorem dX4_init_42 : decode cX4_init 42 = .ok (.putfield 24, 3) := by decide +kernel
theorem dX4_init_45 : decode cX4_init 45 = .ok (.aload_n 0, 1) := by decide +kernel
theorem dX4_init_46 : decode cX4_init 46 = .ok (.sipush 256, 3) := by decide +kernel
theorem dX4_init_49 : decode cX4_init 49 = .ok (.newarray .int, 2) := by decide +kernel
theorem dX4_init_51 : decode cX4_init 51 = .ok (.putfield 27, 3) := by decide +kernel
theorem dX4_init_54 : decode cX4_init 54 = .ok (.return_, 1) := by decide +kernel
theorem dX4_clear_0 : decode cX4_clear 0 = .ok (.aload_n 0, 1) := by decide +kernel
theorem dX4_clear_1 : decode cX4_clear 1 = .ok (.iconst 0, 1) := by decide +kernel
theorem dX4_clear_2 : decode cX4_clear 2 = .ok (.putfield 30, 3) := by decide +kernel
theorem dX4_clear_5 : decode cX4_clear 5 = .ok (.aload_n 0, 1) := by decide +kernel
theorem dX4_clear_6 : decode cX4_clear 6 = .ok (.iconst 0, 1) := by decide +kernel
theorem dX4_clear_7 : decode cX4_clear 7 = .ok (.putfield 34, 3) := by decide +kernel
theorem dX4_clear_10 : decode cX4_clear 10 = .ok (.aload_n 0, 1) := by decide +kernel
theorem dX4_clear_11 : decode cX4_clear 11 = .ok (.iconst 0, 1) := by decide +kernel
theorem dX4_clear_12 : decode cX4_clear 12 = .ok (.putfield 37, 3) := by decide +kernel
theorem dX4_clear_15 : decode cX4_clear 15 = .ok (.aload_n 0, 1) := by decide +kernel
theorem dX4_clear_16 : decode cX4_clear 16 = .ok (.iconst 0, 1) := by decide +kernel
theorem dX4_clear_17 : decode cX4_clear 17 = .ok (.putfield 40, 3) := by decide +kernel
theorem dX4_clear_20 : decode cX4_clear 20 = .ok (.return_, 1) := by decide +kernel
theorem dX4_isFull_0 : decode cX4_isFull 0 = .ok (.aload_n 0, 1) := by decide +kernel
theorem dX4_isFull_1 : decode cX4_isFull 1 = .ok (.getfield 30, 3) := by decide +kernel
theorem dX4_isFull_4 : decode cX4_isFull 4 = .ok (.aload_n 0, 1) := by decide +kernel
theorem dX4_isFull_5 : decode cX4_isFull 5 = .ok (.getfield 37, 3) := by decide +kernel
theorem dX4_isFull_8 : decode cX4_isFull 8 = .ok (.iadd, 1) := by decide +kernel
theorem dX4_isFull_9 : decode cX4_isFull 9 = .ok (.bipush 60, 2) := by decide +kernel
theorem dX4_isFull_11 : decode cX4_isFull 11 = .ok (.if_icmp .lt 7, 3) := by decide +kernel
theorem dX4_isFull_14 : decode cX4_isFull 14 = .ok (.iconst 1, 1) := by decide +kernel
theorem dX4_isFull_15 : decode cX4_isFull 15 = .ok (.goto 4, 3) := by decide +kernel
theorem dX4_isFull_18 : decode cX4_isFull 18 = .ok (.iconst 0, 1) := by decide +kernel
theorem dX4_isFull_19 : decode cX4_isFull 19 = .ok (.ireturn, 1) := by decide +kernel
theorem dX4_addValue_0 : decode cX4_addValue 0 = .ok (.aload_n 0, 1) := by decide +kernel
theorem dX4_addValue_1 : decode cX4_addValue 1 = .ok (.getfield 30, 3) := by decide +kernel
theorem dX4_addValue_4 : decode cX4_addValue 4 = .ok (.bipush 60, 2) := by decide +kernel
theorem dX4_addValue_6 : decode cX4_addValue 6 = .ok (.if_icmp .ge 33, 3) := by decide +kernel
theorem dX4_addValue_9 : decode cX4_addValue 9 = .ok (.aload_n 0, 1) := by decide +kernel
theorem dX4_addValue_10 : decode cX4_addValue 10 = .ok (.getfield 9, 3) := by decide +kernel
theorem dX4_addValue_13 : decode cX4_addValue 13 = .ok (.aload_n 0, 1) := by decide +kernel
theorem dX4_addValue_14 : decode cX4_addValue 14 = .ok (.getfield 30, 3) := by decide +kernel
theorem dX4_addValue_17 : decode cX4_addValue 17 = .ok (.iload_n 1, 1) := by decide +kernel
theorem dX4_addValue_18 : decode cX4_addValue 18 = .ok (.iastore, 1) := by decide +kernel
theorem dX4_addValue_19 : decode cX4_addValue 19 = .ok (.aload_n 0, 1) := by decide +kernel
theorem dX4_addValue_20 : decode cX4_addValue 20 = .ok (.getfield 15, 3) := by decide +kernel
theorem dX4_addValue_23 : decode cX4_addValue 23 = .ok (.aload_n 0, 1) := by decide +kernel
theorem dX4_addValue_24 : decode cX4_addValue 24 = .ok (.getfield 30, 3) := by decide +kernel
theorem dX4_addValue_27 : decode cX4_addValue 27 = .ok (.iload_n 2, 1) := by decide +kernel
theorem dX4_addValue_28 : decode cX4_addValue 28 = .ok (.iastore, 1) := by decide +kernel
theorem dX4_addValue_29 : decode cX4_addValue 29 = .ok (.aload_n 0, 1) := by decide +kernel
theorem dX4_addValue_30 : decode cX4_addValue 30 = .ok (.dup, 1) := by decide +kernel
theorem dX4_addValue_31 : decode cX4_addValue 31 = .ok (.getfield 30, 3) := by decide +kernel
theorem dX4_addValue_34 : decode cX4_addValue 34 = .ok (.iconst 1, 1) := by decide +kernel
theorem dX4_addValue_35 : decode cX4_addValue 35 = .ok (.iadd, 1) := by decide +kernel
theorem dX4_addValue_36 : decode cX4_addValue 36 = .ok (.putfield 30, 3) := by decide +kernel
theorem dX4_addValue_39 : decode cX4_addValue 39 = .ok (.return_, 1) := by decide +kernel
theorem dX4_countFact_0 : decode cX4_countFact 0 = .ok (.aload_n 0, 1) := by decide +kernel
theorem dX4_countFact_1 : decode cX4_countFact 1 = .ok (.dup, 1) := by decide +kernel
theorem dX4_countFact_2 : decode cX4_countFact 2 = .ok (.getfield 37, 3) := by decide +kernel
theorem dX4_countFact_5 : decode cX4_countFact 5 = .ok (.iconst 1, 1) := by decide +kernel
theorem dX4_countFact_6 : decode cX4_countFact 6 = .ok (.iadd, 1) := by decide +kernel
theorem dX4_countFact_7 : decode cX4_countFact 7 = .ok (.putfield 37, 3) := by decide +kernel
theorem dX4_countFact_10 : decode cX4_countFact 10 = .ok (.return_, 1) := by decide +kernel
theorem dX4_beginSum_0 : decode cX4_beginSum 0 = .ok (.aload_n 0, 1) := by decide +kernel
theorem dX4_beginSum_1 : decode cX4_beginSum 1 = .ok (.getfield 34, 3) := by decide +kernel
theorem dX4_beginSum_4 : decode cX4_beginSum 4 = .ok (.bipush 60, 2) := by decide +kernel
theorem dX4_beginSum_6 : decode cX4_beginSum 6 = .ok (.if_icmp .ge 26, 3) := by decide +kernel
theorem dX4_beginSum_9 : decode cX4_beginSum 9 = .ok (.aload_n 0, 1) := by decide +kernel
theorem dX4_beginSum_10 : decode cX4_beginSum 10 = .ok (.getfield 18, 3) := by decide +kernel
theorem dX4_beginSum_13 : decode cX4_beginSum 13 = .ok (.aload_n 0, 1) := by decide +kernel
theorem dX4_beginSum_14 : decode cX4_beginSum 14 = .ok (.getfield 34, 3) := by decide +kernel
theorem dX4_beginSum_17 : decode cX4_beginSum 17 = .ok (.aload_n 0, 1) := by decide +kernel
theorem dX4_beginSum_18 : decode cX4_beginSum 18 = .ok (.getfield 30, 3) := by decide +kernel
theorem dX4_beginSum_21 : decode cX4_beginSum 21 = .ok (.iastore, 1) := by decide +kernel
theorem dX4_beginSum_22 : decode cX4_beginSum 22 = .ok (.aload_n 0, 1) := by decide +kernel
theorem dX4_beginSum_23 : decode cX4_beginSum 23 = .ok (.dup, 1) := by decide +kernel
theorem dX4_beginSum_24 : decode cX4_beginSum 24 = .ok (.getfield 34, 3) := by decide +kernel
theorem dX4_beginSum_27 : decode cX4_beginSum 27 = .ok (.iconst 1, 1) := by decide +kernel
theorem dX4_beginSum_28 : decode cX4_beginSum 28 = .ok (.iadd, 1) := by decide +kernel
theorem dX4_beginSum_29 : decode cX4_beginSum 29 = .ok (.putfield 34, 3) := by decide +kernel
theorem dX4_beginSum_32 : decode cX4_beginSum 32 = .ok (.aload_n 0, 1) := by decide +kernel
theorem dX4_beginSum_33 : decode cX4_beginSum 33 = .ok (.getfield 34, 3) := by decide +kernel
theorem dX4_beginSum_36 : decode cX4_beginSum 36 = .ok (.iconst 1, 1) := by decide +kernel
theorem dX4_beginSum_37 : decode cX4_beginSum 37 = .ok (.isub, 1) := by decide +kernel
theorem dX4_beginSum_38 : decode cX4_beginSum 38 = .ok (.ireturn, 1) := by decide +kernel
theorem dX4_endSum_0 : decode cX4_endSum 0 = .ok (.iload_n 1, 1) := by decide +kernel
theorem dX4_endSum_1 : decode cX4_endSum 1 = .ok (.ifCond .lt 19, 3) := by decide +kernel
theorem dX4_endSum_4 : decode cX4_endSum 4 = .ok (.iload_n 1, 1) := by decide +kernel
theorem dX4_endSum_5 : decode cX4_endSum 5 = .ok (.bipush 60, 2) := by decide +kernel
theorem dX4_endSum_7 : decode cX4_endSum 7 = .ok (.if_icmp .ge 13, 3) := by decide +kernel
theorem dX4_endSum_10 : decode cX4_endSum 10 = .ok (.aload_n 0, 1) := by decide +kernel
theorem dX4_endSum_11 : decode cX4_endSum 11 = .ok (.getfield 21, 3) := by decide +kernel
theorem dX4_endSum_14 : decode cX4_endSum 14 = .ok (.iload_n 1, 1) := by decide +kernel
theorem dX4_endSum_15 : decode cX4_endSum 15 = .ok (.aload_n 0, 1) := by decide +kernel
theorem dX4_endSum_16 : decode cX4_endSum 16 = .ok (.getfield 30, 3) := by decide +kernel
theorem dX4_endSum_19 : decode cX4_endSum 19 = .ok (.iastore, 1) := by decide +kernel
theorem dX4_endSum_20 : decode cX4_endSum 20 = .ok (.return_, 1) := by decide +kernel
theorem dX4_addStep_0 : decode cX4_addStep 0 = .ok (.aload_n 0, 1) := by decide +kernel
theorem dX4_addStep_1 : decode cX4_addStep 1 = .ok (.getfield 40, 3) := by decide +kernel
theorem dX4_addStep_4 : decode cX4_addStep 4 = .ok (.sipush 256, 3) := by decide +kernel
theorem dX4_addStep_7 : decode cX4_addStep 7 = .ok (.if_icmp .ge 33, 3) := by decide +kernel
theorem dX4_addStep_10 : decode cX4_addStep 10 = .ok (.aload_n 0, 1) := by decide +kernel
theorem dX4_addStep_11 : decode cX4_addStep 11 = .ok (.getfield 24, 3) := by decide +kernel
theorem dX4_addStep_14 : decode cX4_addStep 14 = .ok (.aload_n 0, 1) := by decide +kernel
theorem dX4_addStep_15 : decode cX4_addStep 15 = .ok (.getfield 40, 3) := by decide +kernel
theorem dX4_addStep_18 : decode cX4_addStep 18 = .ok (.iload_n 1, 1) := by decide +kernel
theorem dX4_addStep_19 : decode cX4_addStep 19 = .ok (.iastore, 1) := by decide +kernel
theorem dX4_addStep_20 : decode cX4_addStep 20 = .ok (.aload_n 0, 1) := by decide +kernel
theorem dX4_addStep_21 : decode cX4_addStep 21 = .ok (.getfield 27, 3) := by decide +kernel
theorem dX4_addStep_24 : decode cX4_addStep 24 = .ok (.aload_n 0, 1) := by decide +kernel
theorem dX4_addStep_25 : decode cX4_addStep 25 = .ok (.getfield 40, 3) := by decide +kernel
theorem dX4_addStep_28 : decode cX4_addStep 28 = .ok (.iload_n 2, 1) := by decide +kernel
theorem dX4_addStep_29 : decode cX4_addStep 29 = .ok (.iastore, 1) := by decide +kernel
theorem dX4_addStep_30 : decode cX4_addStep 30 = .ok (.aload_n 0, 1) := by decide +kernel
theorem dX4_addStep_31 : decode cX4_addStep 31 = .ok (.dup, 1) := by decide +kernel
theorem dX4_addStep_32 : decode cX4_addStep 32 = .ok (.getfield 40, 3) := by decide +kernel
theorem dX4_addStep_35 : decode cX4_addStep 35 = .ok (.iconst 1, 1) := by decide +kernel
theorem dX4_addStep_36 : decode cX4_addStep 36 = .ok (.iadd, 1) := by decide +kernel
theorem dX4_addStep_37 : decode cX4_addStep 37 = .ok (.putfield 40, 3) := by decide +kernel
theorem dX4_addStep_40 : decode cX4_addStep 40 = .ok (.aload_n 0, 1) := by decide +kernel
theorem dX4_addStep_41 : decode cX4_addStep 41 = .ok (.getfield 40, 3) := by decide +kernel
theorem dX4_addStep_44 : decode cX4_addStep 44 = .ok (.iconst 1, 1) := by decide +kernel
theorem dX4_addStep_45 : decode cX4_addStep 45 = .ok (.isub, 1) := by decide +kernel
theorem dX4_addStep_46 : decode cX4_addStep 46 = .ok (.ireturn, 1) := by decide +kernel
theorem dX4_landHere_0 : decode cX4_landHere 0 = .ok (.iload_n 1, 1) := by decide +kernel
theorem dX4_landHere_1 : decode cX4_landHere 1 = .ok (.ifCond .lt 20, 3) := by decide +kernel
theorem dX4_landHere_4 : decode cX4_landHere 4 = .ok (.iload_n 1, 1) := by decide +kernel
theorem dX4_landHere_5 : decode cX4_landHere 5 = .ok (.sipush 256, 3) := by decide +kernel
theorem dX4_landHere_8 : decode cX4_landHere 8 = .ok (.if_icmp .ge 13, 3) := by decide +kernel
theorem dX4_landHere_11 : decode cX4_landHere 11 = .ok (.aload_n 0, 1) := by decide +kernel
theorem dX4_landHere_12 : decode cX4_landHere 12 = .ok (.getfield 27, 3) := by decide +kernel
theorem dX4_landHere_15 : decode cX4_landHere 15 = .ok (.iload_n 1, 1) := by decide +kernel
theorem dX4_landHere_16 : decode cX4_landHere 16 = .ok (.aload_n 0, 1) := by decide +kernel
theorem dX4_landHere_17 : decode cX4_landHere 17 = .ok (.getfield 40, 3) := by decide +kernel
theorem dX4_landHere_20 : decode cX4_landHere 20 = .ok (.iastore, 1) := by decide +kernel
theorem dX4_landHere_21 : decode cX4_landHere 21 = .ok (.return_, 1) := by decide +kernel
theorem dX4_worth_0 : decode cX4_worth 0 = .ok (.iconst 1, 1) := by decide +kernel
theorem dX4_worth_1 : decode cX4_worth 1 = .ok (.istore_n 2, 1) := by decide +kernel
theorem dX4_worth_2 : decode cX4_worth 2 = .ok (.iconst 0, 1) := by decide +kernel
theorem dX4_worth_3 : decode cX4_worth 3 = .ok (.istore_n 3, 1) := by decide +kernel
theorem dX4_worth_4 : decode cX4_worth 4 = .ok (.iload_n 3, 1) := by decide +kernel
theorem dX4_worth_5 : decode cX4_worth 5 = .ok (.aload_n 0, 1) := by decide +kernel
theorem dX4_worth_6 : decode cX4_worth 6 = .ok (.getfield 40, 3) := by decide +kernel
theorem dX4_worth_9 : decode cX4_worth 9 = .ok (.if_icmp .ge 140, 3) := by decide +kernel
theorem dX4_worth_12 : decode cX4_worth 12 = .ok (.aload_n 0, 1) := by decide +kernel
theorem dX4_worth_13 : decode cX4_worth 13 = .ok (.getfield 27, 3) := by decide +kernel
theorem dX4_worth_16 : decode cX4_worth 16 = .ok (.iload_n 3, 1) := by decide +kernel
theorem dX4_worth_17 : decode cX4_worth 17 = .ok (.iaload, 1) := by decide +kernel
theorem dX4_worth_18 : decode cX4_worth 18 = .ok (.istore 4, 2) := by decide +kernel
theorem dX4_worth_20 : decode cX4_worth 20 = .ok (.aload_n 0, 1) := by decide +kernel
theorem dX4_worth_21 : decode cX4_worth 21 = .ok (.getfield 24, 3) := by decide +kernel
theorem dX4_worth_24 : decode cX4_worth 24 = .ok (.iload_n 3, 1) := by decide +kernel
theorem dX4_worth_25 : decode cX4_worth 25 = .ok (.iaload, 1) := by decide +kernel
theorem dX4_worth_26 : decode cX4_worth 26 = .ok (.tableswitch 91 1 4 #[30, 43, 63, 83], 30) := by decide +kernel
theorem dX4_worth_56 : decode cX4_worth 56 = .ok (.iload_n 2, 1) := by decide +kernel
theorem dX4_worth_57 : decode cX4_worth 57 = .ok (.ifCond .ne 7, 3) := by decide +kernel
theorem dX4_worth_60 : decode cX4_worth 60 = .ok (.iconst 1, 1) := by decide +kernel
theorem dX4_worth_61 : decode cX4_worth 61 = .ok (.goto 4, 3) := by decide +kernel
theorem dX4_worth_64 : decode cX4_worth 64 = .ok (.iconst 0, 1) := by decide +kernel
theorem dX4_worth_65 : decode cX4_worth 65 = .ok (.istore_n 2, 1) := by decide +kernel
theorem dX4_worth_66 : decode cX4_worth 66 = .ok (.goto 77, 3) := by decide +kernel
theorem dX4_worth_69 : decode cX4_worth 69 = .ok (.iload_n 2, 1) := by decide +kernel
theorem dX4_worth_70 : decode cX4_worth 70 = .ok (.ifCond .eq 7, 3) := by decide +kernel
theorem dX4_worth_73 : decode cX4_worth 73 = .ok (.iload_n 3, 1) := by decide +kernel
theorem dX4_worth_74 : decode cX4_worth 74 = .ok (.goto 11, 3) := by decide +kernel
theorem dX4_worth_77 : decode cX4_worth 77 = .ok (.iload_n 3, 1) := by decide +kernel
theorem dX4_worth_78 : decode cX4_worth 78 = .ok (.iload 4, 2) := by decide +kernel
theorem dX4_worth_80 : decode cX4_worth 80 = .ok (.iconst 1, 1) := by decide +kernel
theorem dX4_worth_81 : decode cX4_worth 81 = .ok (.isub, 1) := by decide +kernel
theorem dX4_worth_82 : decode cX4_worth 82 = .ok (.invokestatic 43, 3) := by decide +kernel
theorem dX4_worth_85 : decode cX4_worth 85 = .ok (.istore_n 3, 1) := by decide +kernel
theorem dX4_worth_86 : decode cX4_worth 86 = .ok (.goto 57, 3) := by decide +kernel
theorem dX4_worth_89 : decode cX4_worth 89 = .ok (.iload_n 2, 1) := by decide +kernel
theorem dX4_worth_90 : decode cX4_worth 90 = .ok (.ifCond .eq 14, 3) := by decide +kernel
theorem dX4_worth_93 : decode cX4_worth 93 = .ok (.iload_n 3, 1) := by decide +kernel
theorem dX4_worth_94 : decode cX4_worth 94 = .ok (.iload 4, 2) := by decide +kernel
theorem dX4_worth_96 : decode cX4_worth 96 = .ok (.iconst 1, 1) := by decide +kernel
theorem dX4_worth_97 : decode cX4_worth 97 = .ok (.isub, 1) := by decide +kernel
theorem dX4_worth_98 : decode cX4_worth 98 = .ok (.invokestatic 43, 3) := by decide +kernel
theorem dX4_worth_101 : decode cX4_worth 101 = .ok (.goto 4, 3) := by decide +kernel
theorem dX4_worth_104 : decode cX4_worth 104 = .ok (.iload_n 3, 1) := by decide +kernel
theorem dX4_worth_105 : decode cX4_worth 105 = .ok (.istore_n 3, 1) := by decide +kernel
theorem dX4_worth_106 : decode cX4_worth 106 = .ok (.goto 37, 3) := by decide +kernel
theorem dX4_worth_109 : decode cX4_worth 109 = .ok (.aload_n 0, 1) := by decide +kernel
theorem dX4_worth_110 : decode cX4_worth 110 = .ok (.iload 4, 2) := by decide +kernel
theorem dX4_worth_112 : decode cX4_worth 112 = .ok (.aload_n 1, 1) := by decide +kernel
theorem dX4_worth_113 : decode cX4_worth 113 = .ok (.invokevirtual 49, 3) := by decide +kernel
theorem dX4_worth_116 : decode cX4_worth 116 = .ok (.lreturn, 1) := by decide +kernel
theorem dX4_worth_117 : decode cX4_worth 117 = .ok (.aload_n 0, 1) := by decide +kernel
theorem dX4_worth_118 : decode cX4_worth 118 = .ok (.getfield 24, 3) := by decide +kernel
theorem dX4_worth_121 : decode cX4_worth 121 = .ok (.iload_n 3, 1) := by decide +kernel
theorem dX4_worth_122 : decode cX4_worth 122 = .ok (.iaload, 1) := by decide +kernel
theorem dX4_worth_123 : decode cX4_worth 123 = .ok (.aload_n 0, 1) := by decide +kernel
theorem dX4_worth_124 : decode cX4_worth 124 = .ok (.iload 4, 2) := by decide +kernel
theorem dX4_worth_126 : decode cX4_worth 126 = .ok (.aload_n 1, 1) := by decide +kernel
theorem dX4_worth_127 : decode cX4_worth 127 = .ok (.invokevirtual 49, 3) := by decide +kernel
theorem dX4_worth_130 : decode cX4_worth 130 = .ok (.aload_n 0, 1) := by decide +kernel
theorem dX4_worth_131 : decode cX4_worth 131 = .ok (.iload 4, 2) := by decide +kernel
theorem dX4_worth_133 : decode cX4_worth 133 = .ok (.iconst 1, 1) := by decide +kernel
theorem dX4_worth_134 : decode cX4_worth 134 = .ok (.iadd, 1) := by decide +kernel
theorem dX4_worth_135 : decode cX4_worth 135 = .ok (.aload_n 1, 1) := by decide +kernel
theorem dX4_worth_136 : decode cX4_worth 136 = .ok (.invokevirtual 49, 3) := by decide +kernel
theorem dX4_worth_139 : decode cX4_worth 139 = .ok (.invokestatic 53, 3) := by decide +kernel
theorem dX4_worth_142 : decode cX4_worth 142 = .ok (.istore_n 2, 1) := by decide +kernel
theorem dX4_worth_143 : decode cX4_worth 143 = .ok (.iinc 3 1, 3) := by decide +kernel
theorem dX4_worth_146 : decode cX4_worth 146 = .ok (.goto (-142), 3) := by decide +kernel
theorem dX4_worth_149 : decode cX4_worth 149 = .ok (.lconst 0, 1) := by decide +kernel
theorem dX4_worth_150 : decode cX4_worth 150 = .ok (.lreturn, 1) := by decide +kernel
theorem dX4_compares_0 : decode cX4_compares 0 = .ok (.iload_n 0, 1) := by decide +kernel
theorem dX4_compares_1 : decode cX4_compares 1 = .ok (.lookupswitch 91 #[(60, 43), (62, 67), (316, 55), (318, 79)], 43) := by decide +kernel
theorem dX4_compares_44 : decode cX4_compares 44 = .ok (.lload_n 1, 1) := by decide +kernel
theorem dX4_compares_45 : decode cX4_compares 45 = .ok (.lload_n 3, 1) := by decide +kernel
theorem dX4_compares_46 : decode cX4_compares 46 = .ok (.lcmp, 1) := by decide +kernel
theorem dX4_compares_47 : decode cX4_compares 47 = .ok (.ifCond .ge 7, 3) := by decide +kernel
theorem dX4_compares_50 : decode cX4_compares 50 = .ok (.iconst 1, 1) := by decide +kernel
theorem dX4_compares_51 : decode cX4_compares 51 = .ok (.goto 4, 3) := by decide +kernel
theorem dX4_compares_54 : decode cX4_compares 54 = .ok (.iconst 0, 1) := by decide +kernel
theorem dX4_compares_55 : decode cX4_compares 55 = .ok (.ireturn, 1) := by decide +kernel
theorem dX4_compares_56 : decode cX4_compares 56 = .ok (.lload_n 1, 1) := by decide +kernel
theorem dX4_compares_57 : decode cX4_compares 57 = .ok (.lload_n 3, 1) := by decide +kernel
theorem dX4_compares_58 : decode cX4_compares 58 = .ok (.lcmp, 1) := by decide +kernel
theorem dX4_compares_59 : decode cX4_compares 59 = .ok (.ifCond .gt 7, 3) := by decide +kernel
theorem dX4_compares_62 : decode cX4_compares 62 = .ok (.iconst 1, 1) := by decide +kernel
theorem dX4_compares_63 : decode cX4_compares 63 = .ok (.goto 4, 3) := by decide +kernel
theorem dX4_compares_66 : decode cX4_compares 66 = .ok (.iconst 0, 1) := by decide +kernel
theorem dX4_compares_67 : decode cX4_compares 67 = .ok (.ireturn, 1) := by decide +kernel
theorem dX4_compares_68 : decode cX4_compares 68 = .ok (.lload_n 1, 1) := by decide +kernel
theorem dX4_compares_69 : decode cX4_compares 69 = .ok (.lload_n 3, 1) := by decide +kernel
theorem dX4_compares_70 : decode cX4_compares 70 = .ok (.lcmp, 1) := by decide +kernel
theorem dX4_compares_71 : decode cX4_compares 71 = .ok (.ifCond .le 7, 3) := by decide +kernel
theorem dX4_compares_74 : decode cX4_compares 74 = .ok (.iconst 1, 1) := by decide +kernel
theorem dX4_compares_75 : decode cX4_compares 75 = .ok (.goto 4, 3) := by decide +kernel
theorem dX4_compares_78 : decode cX4_compares 78 = .ok (.iconst 0, 1) := by decide +kernel
theorem dX4_compares_79 : decode cX4_compares 79 = .ok (.ireturn, 1) := by decide +kernel
theorem dX4_compares_80 : decode cX4_compares 80 = .ok (.lload_n 1, 1) := by decide +kernel
theorem dX4_compares_81 : decode cX4_compares 81 = .ok (.lload_n 3, 1) := by decide +kernel
theorem dX4_compares_82 : decode cX4_compares 82 = .ok (.lcmp, 1) := by decide +kernel
theorem dX4_compares_83 : decode cX4_compares 83 = .ok (.ifCond .lt 7, 3) := by decide +kernel
theorem dX4_compares_86 : decode cX4_compares 86 = .ok (.iconst 1, 1) := by decide +kernel
theorem dX4_compares_87 : decode cX4_compares 87 = .ok (.goto 4, 3) := by decide +kernel
theorem dX4_compares_90 : decode cX4_compares 90 = .ok (.iconst 0, 1) := by decide +kernel
theorem dX4_compares_91 : decode cX4_compares 91 = .ok (.ireturn, 1) := by decide +kernel
theorem dX4_compares_92 : decode cX4_compares 92 = .ok (.lload_n 1, 1) := by decide +kernel
theorem dX4_compares_93 : decode cX4_compares 93 = .ok (.lload_n 3, 1) := by decide +kernel
theorem dX4_compares_94 : decode cX4_compares 94 = .ok (.lcmp, 1) := by decide +kernel
theorem dX4_compares_95 : decode cX4_compares 95 = .ok (.ifCond .ne 7, 3) := by decide +kernel
theorem dX4_compares_98 : decode cX4_compares 98 = .ok (.iconst 1, 1) := by decide +kernel
theorem dX4_compares_99 : decode cX4_compares 99 = .ok (.goto 4, 3) := by decide +kernel
theorem dX4_compares_102 : decode cX4_compares 102 = .ok (.iconst 0, 1) := by decide +kernel
theorem dX4_compares_103 : decode cX4_compares 103 = .ok (.ireturn, 1) := by decide +kernel
theorem dX4_sumOf_0 : decode cX4_sumOf 0 = .ok (.iload_n 1, 1) := by decide +kernel
theorem dX4_sumOf_1 : decode cX4_sumOf 1 = .ok (.ifCond .lt 11, 3) := by decide +kernel
theorem dX4_sumOf_4 : decode cX4_sumOf 4 = .ok (.iload_n 1, 1) := by decide +kernel
theorem dX4_sumOf_5 : decode cX4_sumOf 5 = .ok (.aload_n 0, 1) := by decide +kernel
theorem dX4_sumOf_6 : decode cX4_sumOf 6 = .ok (.getfield 34, 3) := by decide +kernel
theorem dX4_sumOf_9 : decode cX4_sumOf 9 = .ok (.if_icmp .lt 5, 3) := by decide +kernel
theorem dX4_sumOf_12 : decode cX4_sumOf 12 = .ok (.lconst 0, 1) := by decide +kernel
theorem dX4_sumOf_13 : decode cX4_sumOf 13 = .ok (.lreturn, 1) := by decide +kernel
theorem dX4_sumOf_14 : decode cX4_sumOf 14 = .ok (.lconst 0, 1) := by decide +kernel
theorem dX4_sumOf_15 : decode cX4_sumOf 15 = .ok (.lstore_n 3, 1) := by decide +kernel
theorem dX4_sumOf_16 : decode cX4_sumOf 16 = .ok (.lconst 0, 1) := by decide +kernel
theorem dX4_sumOf_17 : decode cX4_sumOf 17 = .ok (.lstore 5, 2) := by decide +kernel
theorem dX4_sumOf_19 : decode cX4_sumOf 19 = .ok (.iconst 0, 1) := by decide +kernel
theorem dX4_sumOf_20 : decode cX4_sumOf 20 = .ok (.istore 7, 2) := by decide +kernel
theorem dX4_sumOf_22 : decode cX4_sumOf 22 = .ok (.aload_n 0, 1) := by decide +kernel
theorem dX4_sumOf_23 : decode cX4_sumOf 23 = .ok (.getfield 18, 3) := by decide +kernel
theorem dX4_sumOf_26 : decode cX4_sumOf 26 = .ok (.iload_n 1, 1) := by decide +kernel
theorem dX4_sumOf_27 : decode cX4_sumOf 27 = .ok (.iaload, 1) := by decide +kernel
theorem dX4_sumOf_28 : decode cX4_sumOf 28 = .ok (.istore 8, 2) := by decide +kernel
theorem dX4_sumOf_30 : decode cX4_sumOf 30 = .ok (.iload 8, 2) := by decide +kernel
theorem dX4_sumOf_32 : decode cX4_sumOf 32 = .ok (.aload_n 0, 1) := by decide +kernel
theorem dX4_sumOf_33 : decode cX4_sumOf 33 = .ok (.getfield 21, 3) := by decide +kernel
theorem dX4_sumOf_36 : decode cX4_sumOf 36 = .ok (.iload_n 1, 1) := by decide +kernel
theorem dX4_sumOf_37 : decode cX4_sumOf 37 = .ok (.iaload, 1) := by decide +kernel
theorem dX4_sumOf_38 : decode cX4_sumOf 38 = .ok (.if_icmp .ge 176, 3) := by decide +kernel
theorem dX4_sumOf_41 : decode cX4_sumOf 41 = .ok (.aload_n 0, 1) := by decide +kernel
theorem dX4_sumOf_42 : decode cX4_sumOf 42 = .ok (.getfield 15, 3) := by decide +kernel
theorem dX4_sumOf_45 : decode cX4_sumOf 45 = .ok (.iload 8, 2) := by decide +kernel
theorem dX4_sumOf_47 : decode cX4_sumOf 47 = .ok (.iaload, 1) := by decide +kernel
theorem dX4_sumOf_48 : decode cX4_sumOf 48 = .ok (.ifCond .ge 18, 3) := by decide +kernel
theorem dX4_sumOf_51 : decode cX4_sumOf 51 = .ok (.aload_n 2, 1) := by decide +kernel
theorem dX4_sumOf_52 : decode cX4_sumOf 52 = .ok (.aload_n 0, 1) := by decide +kernel
theorem dX4_sumOf_53 : decode cX4_sumOf 53 = .ok (.getfield 15, 3) := by decide +kernel
theorem dX4_sumOf_56 : decode cX4_sumOf 56 = .ok (.iload 8, 2) := by decide +kernel
theorem dX4_sumOf_58 : decode cX4_sumOf 58 = .ok (.iaload, 1) := by decide +kernel
theorem dX4_sumOf_59 : decode cX4_sumOf 59 = .ok (.iconst (-1), 1) := by decide +kernel
theorem dX4_sumOf_60 : decode cX4_sumOf 60 = .ok (.ixor, 1) := by decide +kernel
theorem dX4_sumOf_61 : decode cX4_sumOf 61 = .ok (.iaload, 1) := by decide +kernel
theorem dX4_sumOf_62 : decode cX4_sumOf 62 = .ok (.i2l, 1) := by decide +kernel
theorem dX4_sumOf_63 : decode cX4_sumOf 63 = .ok (.goto 11, 3) := by decide +kernel
theorem dX4_sumOf_66 : decode cX4_sumOf 66 = .ok (.aload_n 0, 1) := by decide +kernel
theorem dX4_sumOf_67 : decode cX4_sumOf 67 = .ok (.getfield 15, 3) := by decide +kernel
theorem dX4_sumOf_70 : decode cX4_sumOf 70 = .ok (.iload 8, 2) := by decide +kernel
theorem dX4_sumOf_72 : decode cX4_sumOf 72 = .ok (.iaload, 1) := by decide +kernel
theorem dX4_sumOf_73 : decode cX4_sumOf 73 = .ok (.i2l, 1) := by decide +kernel
theorem dX4_sumOf_74 : decode cX4_sumOf 74 = .ok (.lstore 9, 2) := by decide +kernel
theorem dX4_sumOf_76 : decode cX4_sumOf 76 = .ok (.aload_n 0, 1) := by decide +kernel
theorem dX4_sumOf_77 : decode cX4_sumOf 77 = .ok (.getfield 9, 3) := by decide +kernel
theorem dX4_sumOf_80 : decode cX4_sumOf 80 = .ok (.iload 8, 2) := by decide +kernel
theorem dX4_sumOf_82 : decode cX4_sumOf 82 = .ok (.iaload, 1) := by decide +kernel
theorem dX4_sumOf_83 : decode cX4_sumOf 83 = .ok (.lookupswitch 85 #[(37, 64), (42, 33), (47, 43)], 33) := by decide +kernel
theorem dX4_sumOf_116 : decode cX4_sumOf 116 = .ok (.lload 5, 2) := by decide +kernel
theorem dX4_sumOf_118 : decode cX4_sumOf 118 = .ok (.lload 9, 2) := by decide +kernel
theorem dX4_sumOf_120 : decode cX4_sumOf 120 = .ok (.lmul, 1) := by decide +kernel
theorem dX4_sumOf_121 : decode cX4_sumOf 121 = .ok (.lstore 5, 2) := by decide +kernel
theorem dX4_sumOf_123 : decode cX4_sumOf 123 = .ok (.goto 85, 3) := by decide +kernel
theorem dX4_sumOf_126 : decode cX4_sumOf 126 = .ok (.lload 9, 2) := by decide +kernel
theorem dX4_sumOf_128 : decode cX4_sumOf 128 = .ok (.lconst 0, 1) := by decide +kernel
theorem dX4_sumOf_129 : decode cX4_sumOf 129 = .ok (.lcmp, 1) := by decide +kernel
theorem dX4_sumOf_130 : decode cX4_sumOf 130 = .ok (.ifCond .ne 7, 3) := by decide +kernel
theorem dX4_sumOf_133 : decode cX4_sumOf 133 = .ok (.lconst 0, 1) := by decide +kernel
theorem dX4_sumOf_134 : decode cX4_sumOf 134 = .ok (.goto 8, 3) := by decide +kernel
theorem dX4_sumOf_137 : decode cX4_sumOf 137 = .ok (.lload 5, 2) := by decide +kernel
theorem dX4_sumOf_139 : decode cX4_sumOf 139 = .ok (.lload 9, 2) := by decide +kernel
theorem dX4_sumOf_141 : decode cX4_sumOf 141 = .ok (.ldiv, 1) := by decide +kernel
theorem dX4_sumOf_142 : decode cX4_sumOf 142 = .ok (.lstore 5, 2) := by decide +kernel
theorem dX4_sumOf_144 : decode cX4_sumOf 144 = .ok (.goto 64, 3) := by decide +kernel
theorem dX4_sumOf_147 : decode cX4_sumOf 147 = .ok (.lload 9, 2) := by decide +kernel
theorem dX4_sumOf_149 : decode cX4_sumOf 149 = .ok (.lconst 0, 1) := by decide +kernel
theorem dX4_sumOf_150 : decode cX4_sumOf 150 = .ok (.lcmp, 1) := by decide +kernel
theorem dX4_sumOf_151 : decode cX4_sumOf 151 = .ok (.ifCond .ne 7, 3) := by decide +kernel
theorem dX4_sumOf_154 : decode cX4_sumOf 154 = .ok (.lconst 0, 1) := by decide +kernel
theorem dX4_sumOf_155 : decode cX4_sumOf 155 = .ok (.goto 8, 3) := by decide +kernel
theorem dX4_sumOf_158 : decode cX4_sumOf 158 = .ok (.lload 5, 2) := by decide +kernel
theorem dX4_sumOf_160 : decode cX4_sumOf 160 = .ok (.lload 9, 2) := by decide +kernel
theorem dX4_sumOf_162 : decode cX4_sumOf 162 = .ok (.lrem, 1) := by decide +kernel
theorem dX4_sumOf_163 : decode cX4_sumOf 163 = .ok (.lstore 5, 2) := by decide +kernel
theorem dX4_sumOf_165 : decode cX4_sumOf 165 = .ok (.goto 43, 3) := by decide +kernel
theorem dX4_sumOf_168 : decode cX4_sumOf 168 = .ok (.iload 7, 2) := by decide +kernel
theorem dX4_sumOf_170 : decode cX4_sumOf 170 = .ok (.ifCond .eq 10, 3) := by decide +kernel
theorem dX4_sumOf_173 : decode cX4_sumOf 173 = .ok (.lload_n 3, 1) := by decide +kernel
theorem dX4_sumOf_174 : decode cX4_sumOf 174 = .ok (.lload 5, 2) := by decide +kernel
theorem dX4_sumOf_176 : decode cX4_sumOf 176 = .ok (.lsub, 1) := by decide +kernel
theorem dX4_sumOf_177 : decode cX4_sumOf 177 = .ok (.goto 7, 3) := by decide +kernel
theorem dX4_sumOf_180 : decode cX4_sumOf 180 = .ok (.lload_n 3, 1) := by decide +kernel
theorem dX4_sumOf_181 : decode cX4_sumOf 181 = .ok (.lload 5, 2) := by decide +kernel
theorem dX4_sumOf_183 : decode cX4_sumOf 183 = .ok (.ladd, 1) := by decide +kernel
theorem dX4_sumOf_184 : decode cX4_sumOf 184 = .ok (.lstore_n 3, 1) := by decide +kernel
theorem dX4_sumOf_185 : decode cX4_sumOf 185 = .ok (.aload_n 0, 1) := by decide +kernel
theorem dX4_sumOf_186 : decode cX4_sumOf 186 = .ok (.getfield 9, 3) := by decide +kernel
theorem dX4_sumOf_189 : decode cX4_sumOf 189 = .ok (.iload 8, 2) := by decide +kernel
theorem dX4_sumOf_191 : decode cX4_sumOf 191 = .ok (.iaload, 1) := by decide +kernel
theorem dX4_sumOf_192 : decode cX4_sumOf 192 = .ok (.bipush 45, 2) := by decide +kernel
theorem dX4_sumOf_194 : decode cX4_sumOf 194 = .ok (.if_icmp .ne 7, 3) := by decide +kernel
theorem dX4_sumOf_197 : decode cX4_sumOf 197 = .ok (.iconst 1, 1) := by decide +kernel
theorem dX4_sumOf_198 : decode cX4_sumOf 198 = .ok (.goto 4, 3) := by decide +kernel
theorem dX4_sumOf_201 : decode cX4_sumOf 201 = .ok (.iconst 0, 1) := by decide +kernel
theorem dX4_sumOf_202 : decode cX4_sumOf 202 = .ok (.istore 7, 2) := by decide +kernel
theorem dX4_sumOf_204 : decode cX4_sumOf 204 = .ok (.lload 9, 2) := by decide +kernel
theorem dX4_sumOf_206 : decode cX4_sumOf 206 = .ok (.lstore 5, 2) := by decide +kernel
theorem dX4_sumOf_208 : decode cX4_sumOf 208 = .ok (.iinc 8 1, 3) := by decide +kernel
theorem dX4_sumOf_211 : decode cX4_sumOf 211 = .ok (.goto (-181), 3) := by decide +kernel
theorem dX4_sumOf_214 : decode cX4_sumOf 214 = .ok (.iload 7, 2) := by decide +kernel
theorem dX4_sumOf_216 : decode cX4_sumOf 216 = .ok (.ifCond .eq 10, 3) := by decide +kernel
theorem dX4_sumOf_219 : decode cX4_sumOf 219 = .ok (.lload_n 3, 1) := by decide +kernel
theorem dX4_sumOf_220 : decode cX4_sumOf 220 = .ok (.lload 5, 2) := by decide +kernel
theorem dX4_sumOf_222 : decode cX4_sumOf 222 = .ok (.lsub, 1) := by decide +kernel
theorem dX4_sumOf_223 : decode cX4_sumOf 223 = .ok (.goto 7, 3) := by decide +kernel
theorem dX4_sumOf_226 : decode cX4_sumOf 226 = .ok (.lload_n 3, 1) := by decide +kernel
theorem dX4_sumOf_227 : decode cX4_sumOf 227 = .ok (.lload 5, 2) := by decide +kernel
theorem dX4_sumOf_229 : decode cX4_sumOf 229 = .ok (.ladd, 1) := by decide +kernel
theorem dX4_sumOf_230 : decode cX4_sumOf 230 = .ok (.lreturn, 1) := by decide +kernel
theorem dX5_init_0 : decode cX5_init 0 = .ok (.aload_n 0, 1) := by decide +kernel
theorem dX5_init_1 : decode cX5_init 1 = .ok (.invokespecial 3, 3) := by decide +kernel
theorem dX5_init_4 : decode cX5_init 4 = .ok (.aload_n 0, 1) := by decide +kernel
theorem dX5_init_5 : decode cX5_init 5 = .ok (.aload_n 1, 1) := by decide +kernel
theorem dX5_init_6 : decode cX5_init 6 = .ok (.putfield 9, 3) := by decide +kernel
theorem dX5_init_9 : decode cX5_init 9 = .ok (.return_, 1) := by decide +kernel
theorem dX5_read_0 : decode cX5_read 0 = .ok (.aload_n 0, 1) := by decide +kernel
theorem dX5_read_1 : decode cX5_read 1 = .ok (.aload_n 1, 1) := by decide +kernel
theorem dX5_read_2 : decode cX5_read 2 = .ok (.putfield 15, 3) := by decide +kernel
theorem dX5_read_5 : decode cX5_read 5 = .ok (.aload_n 0, 1) := by decide +kernel
theorem dX5_read_6 : decode cX5_read 6 = .ok (.getfield 15, 3) := by decide +kernel
theorem dX5_read_9 : decode cX5_read 9 = .ok (.invokevirtual 19, 3) := by decide +kernel
theorem dX5_read_12 : decode cX5_read 12 = .ok (.aload_n 0, 1) := by decide +kernel
theorem dX5_read_13 : decode cX5_read 13 = .ok (.getfield 9, 3) := by decide +kernel
theorem dX5_read_16 : decode cX5_read 16 = .ok (.invokevirtual 24, 3) := by decide +kernel
theorem dX5_read_19 : decode cX5_read 19 = .ok (.iconst 1, 1) := by decide +kernel
theorem dX5_read_20 : decode cX5_read 20 = .ok (.istore_n 2, 1) := by decide +kernel
theorem dX5_read_21 : decode cX5_read 21 = .ok (.iconst 0, 1) := by decide +kernel
theorem dX5_read_22 : decode cX5_read 22 = .ok (.istore_n 3, 1) := by decide +kernel
theorem dX5_read_23 : decode cX5_read 23 = .ok (.iload_n 2, 1) := by decide +kernel
theorem dX5_read_24 : decode cX5_read 24 = .ok (.ifCond .eq 135, 3) := by decide +kernel
theorem dX5_read_27 : decode cX5_read 27 = .ok (.iload_n 3, 1) := by decide +kernel
theorem dX5_read_28 : decode cX5_read 28 = .ok (.bipush 12, 2) := by decide +kernel
theorem dX5_read_30 : decode cX5_read 30 = .ok (.if_icmp .gt 129, 3) := by decide +kernel
theorem dX5_read_33 : decode cX5_read 33 = .ok (.aload_n 0, 1) := by decide +kernel
theorem dX5_read_34 : decode cX5_read 34 = .ok (.getfield 15, 3) := by decide +kernel
theorem dX5_read_37 : decode cX5_read 37 = .ok (.invokevirtual 29, 3) := by decide +kernel
theorem dX5_read_40 : decode cX5_read 40 = .ok (.istore 4, 2) := by decide +kernel
theorem dX5_read_42 : decode cX5_read 42 = .ok (.aload_n 0, 1) := by decide +kernel
theorem dX5_read_43 : decode cX5_read 43 = .ok (.iload_n 3, 1) := by decide +kernel
theorem dX5_read_44 : decode cX5_read 44 = .ok (.invokevirtual 33, 3) := by decide +kernel
theorem dX5_read_47 : decode cX5_read 47 = .ok (.ifCond .eq 16, 3) := by decide +kernel
theorem dX5_read_50 : decode cX5_read 50 = .ok (.aload_n 0, 1) := by decide +kernel
theorem dX5_read_51 : decode cX5_read 51 = .ok (.iload 4, 2) := by decide +kernel
theorem dX5_read_53 : decode cX5_read 53 = .ok (.invokevirtual 37, 3) := by decide +kernel
theorem dX5_read_56 : decode cX5_read 56 = .ok (.ifCond .eq 7, 3) := by decide +kernel
theorem dX5_read_59 : decode cX5_read 59 = .ok (.iconst 1, 1) := by decide +kernel
theorem dX5_read_60 : decode cX5_read 60 = .ok (.goto 4, 3) := by decide +kernel
theorem dX5_read_63 : decode cX5_read 63 = .ok (.iconst 0, 1) := by decide +kernel
theorem dX5_read_64 : decode cX5_read 64 = .ok (.istore 5, 2) := by decide +kernel
theorem dX5_read_66 : decode cX5_read 66 = .ok (.iconst (-1), 1) := by decide +kernel
theorem dX5_read_67 : decode cX5_read 67 = .ok (.istore 6, 2) := by decide +kernel
theorem dX5_read_69 : decode cX5_read 69 = .ok (.iload 5, 2) := by decide +kernel
theorem dX5_read_71 : decode cX5_read 71 = .ok (.ifCond .eq 41, 3) := by decide +kernel
theorem dX5_read_74 : decode cX5_read 74 = .ok (.aload_n 0, 1) := by decide +kernel
theorem dX5_read_75 : decode cX5_read 75 = .ok (.getfield 9, 3) := by decide +kernel
theorem dX5_read_78 : decode cX5_read 78 = .ok (.ldc 40, 2) := by decide +kernel
theorem dX5_read_80 : decode cX5_read 80 = .ok (.invokevirtual 42, 3) := by decide +kernel
theorem dX5_read_83 : decode cX5_read 83 = .ok (.iconst (-1), 1) := by decide +kernel
theorem dX5_read_84 : decode cX5_read 84 = .ok (.if_icmp .eq 28, 3) := by decide +kernel
theorem dX5_read_87 : decode cX5_read 87 = .ok (.aload_n 0, 1) := by decide +kernel
theorem dX5_read_88 : decode cX5_read 88 = .ok (.getfield 9, 3) := by decide +kernel
theorem dX5_read_91 : decode cX5_read 91 = .ok (.invokevirtual 46, 3) := by decide +kernel
theorem dX5_read_94 : decode cX5_read 94 = .ok (.aload_n 0, 1) := by decide +kernel
theorem dX5_read_95 : decode cX5_read 95 = .ok (.iconst 0, 1) := by decide +kernel
theorem dX5_read_96 : decode cX5_read 96 = .ok (.invokevirtual 49, 3) := by decide +kernel
theorem dX5_read_99 : decode cX5_read 99 = .ok (.istore 5, 2) := by decide +kernel
theorem dX5_read_101 : decode cX5_read 101 = .ok (.aload_n 0, 1) := by decide +kernel
theorem dX5_read_102 : decode cX5_read 102 = .ok (.getfield 15, 3) := by decide +kernel
theorem dX5_read_105 : decode cX5_read 105 = .ok (.iconst 2, 1) := by decide +kernel
theorem dX5_read_106 : decode cX5_read 106 = .ok (.iconst 0, 1) := by decide +kernel
theorem dX5_read_107 : decode cX5_read 107 = .ok (.invokevirtual 52, 3) := by decide +kernel
theorem dX5_read_110 : decode cX5_read 110 = .ok (.istore 6, 2) := by decide +kernel
theorem dX5_read_112 : decode cX5_read 112 = .ok (.aload_n 0, 1) := by decide +kernel
theorem dX5_read_113 : decode cX5_read 113 = .ok (.getfield 15, 3) := by decide +kernel
theorem dX5_read_116 : decode cX5_read 116 = .ok (.iconst 4, 1) := by decide +kernel
theorem dX5_read_117 : decode cX5_read 117 = .ok (.iload 4, 2) := by decide +kernel
theorem dX5_read_119 : decode cX5_read 119 = .ok (.invokevirtual 52, 3) := by decide +kernel
theorem dX5_read_122 : decode cX5_read 122 = .ok (.pop, 1) := by decide +kernel
theorem dX5_read_123 : decode cX5_read 123 = .ok (.aload_n 0, 1) := by decide +kernel
theorem dX5_read_124 : decode cX5_read 124 = .ok (.getfield 15, 3) := by decide +kernel
theorem dX5_read_127 : decode cX5_read 127 = .ok (.iload 6, 2) := by decide +kernel
theorem dX5_read_129 : decode cX5_read 129 = .ok (.invokevirtual 56, 3) := by decide +kernel
theorem dX5_read_132 : decode cX5_read 132 = .ok (.iload 5, 2) := by decide +kernel
theorem dX5_read_134 : decode cX5_read 134 = .ok (.ifCond .eq 17, 3) := by decide +kernel
theorem dX5_read_137 : decode cX5_read 137 = .ok (.aload_n 0, 1) := by decide +kernel
theorem dX5_read_138 : decode cX5_read 138 = .ok (.getfield 9, 3) := by decide +kernel
theorem dX5_read_141 : decode cX5_read 141 = .ok (.invokevirtual 60, 3) := by decide +kernel
theorem dX5_read_144 : decode cX5_read 144 = .ok (.ifCond .eq 7, 3) := by decide +kernel
theorem dX5_read_147 : decode cX5_read 147 = .ok (.iconst 1, 1) := by decide +kernel
theorem dX5_read_148 : decode cX5_read 148 = .ok (.goto 4, 3) := by decide +kernel
theorem dX5_read_151 : decode cX5_read 151 = .ok (.iconst 0, 1) := by decide +kernel
theorem dX5_read_152 : decode cX5_read 152 = .ok (.istore_n 2, 1) := by decide +kernel
theorem dX5_read_153 : decode cX5_read 153 = .ok (.iinc 3 1, 3) := by decide +kernel
theorem dX5_read_156 : decode cX5_read 156 = .ok (.goto (-133), 3) := by decide +kernel
theorem dX5_read_159 : decode cX5_read 159 = .ok (.aload_n 0, 1) := by decide +kernel
theorem dX5_read_160 : decode cX5_read 160 = .ok (.getfield 9, 3) := by decide +kernel
theorem dX5_read_163 : decode cX5_read 163 = .ok (.getfield 64, 3) := by decide +kernel
theorem dX5_read_166 : decode cX5_read 166 = .ok (.ifCond .ne 7, 3) := by decide +kernel
theorem dX5_read_169 : decode cX5_read 169 = .ok (.iconst 1, 1) := by decide +kernel
theorem dX5_read_170 : decode cX5_read 170 = .ok (.goto 4, 3) := by decide +kernel
theorem dX5_read_173 : decode cX5_read 173 = .ok (.iconst 0, 1) := by decide +kernel
theorem dX5_read_174 : decode cX5_read 174 = .ok (.ireturn, 1) := by decide +kernel
theorem dX5_clauseBegins_0 : decode cX5_clauseBegins 0 = .ok (.aload_n 0, 1) := by decide +kernel
theorem dX5_clauseBegins_1 : decode cX5_clauseBegins 1 = .ok (.getfield 9, 3) := by decide +kernel
theorem dX5_clauseBegins_4 : decode cX5_clauseBegins 4 = .ok (.ldc 68, 2) := by decide +kernel
theorem dX5_clauseBegins_6 : decode cX5_clauseBegins 6 = .ok (.invokevirtual 42, 3) := by decide +kernel
theorem dX5_clauseBegins_9 : decode cX5_clauseBegins 9 = .ok (.iconst (-1), 1) := by decide +kernel
theorem dX5_clauseBegins_10 : decode cX5_clauseBegins 10 = .ok (.if_icmp .ne 12, 3) := by decide +kernel
theorem dX5_clauseBegins_13 : decode cX5_clauseBegins 13 = .ok (.aload_n 0, 1) := by decide +kernel
theorem dX5_clauseBegins_14 : decode cX5_clauseBegins 14 = .ok (.getfield 9, 3) := by decide +kernel
theorem dX5_clauseBegins_17 : decode cX5_clauseBegins 17 = .ok (.iconst 0, 1) := by decide +kernel
theorem dX5_clauseBegins_18 : decode cX5_clauseBegins 18 = .ok (.invokevirtual 70, 3) := by decide +kernel
theorem dX5_clauseBegins_21 : decode cX5_clauseBegins 21 = .ok (.ireturn, 1) := by decide +kernel
theorem dX5_clauseBegins_22 : decode cX5_clauseBegins 22 = .ok (.iload_n 1, 1) := by decide +kernel
theorem dX5_clauseBegins_23 : decode cX5_clauseBegins 23 = .ok (.bipush 12, 2) := by decide +kernel
theorem dX5_clauseBegins_25 : decode cX5_clauseBegins 25 = .ok (.if_icmp .lt 12, 3) := by decide +kernel
theorem dX5_clauseBegins_28 : decode cX5_clauseBegins 28 = .ok (.aload_n 0, 1) := by decide +kernel
theorem dX5_clauseBegins_29 : decode cX5_clauseBegins 29 = .ok (.getfield 9, 3) := by decide +kernel
theorem dX5_clauseBegins_32 : decode cX5_clauseBegins 32 = .ok (.iconst 4, 1) := by decide +kernel
theorem dX5_clauseBegins_33 : decode cX5_clauseBegins 33 = .ok (.invokevirtual 70, 3) := by decide +kernel
theorem dX5_clauseBegins_36 : decode cX5_clauseBegins 36 = .ok (.ireturn, 1) := by decide +kernel
theorem dX5_clauseBegins_37 : decode cX5_clauseBegins 37 = .ok (.aload_n 0, 1) := by decide +kernel
theorem dX5_clauseBegins_38 : decode cX5_clauseBegins 38 = .ok (.getfield 9, 3) := by decide +kernel
theorem dX5_clauseBegins_41 : decode cX5_clauseBegins 41 = .ok (.invokevirtual 46, 3) := by decide +kernel
theorem dX5_clauseBegins_44 : decode cX5_clauseBegins 44 = .ok (.iconst 1, 1) := by decide +kernel
theorem dX5_clauseBegins_45 : decode cX5_clauseBegins 45 = .ok (.ireturn, 1) := by decide +kernel
theorem dX5_test_0 : decode cX5_test 0 = .ok (.iconst (-1), 1) := by decide +kernel
theorem dX5_test_1 : decode cX5_test 1 = .ok (.istore_n 2, 1) := by decide +kernel
theorem dX5_test_2 : decode cX5_test 2 = .ok (.aload_n 0, 1) := by decide +kernel
theorem dX5_test_3 : decode cX5_test 3 = .ok (.iload_n 1, 1) := by decide +kernel
theorem dX5_test_4 : decode cX5_test 4 = .ok (.invokevirtual 73, 3) := by decide +kernel
theorem dX5_test_7 : decode cX5_test 7 = .ok (.istore_n 3, 1) := by decide +kernel
theorem dX5_test_8 : decode cX5_test 8 = .ok (.iconst 0, 1) := by decide +kernel
theorem dX5_test_9 : decode cX5_test 9 = .ok (.istore 4, 2) := by decide +kernel
theorem dX5_test_11 : decode cX5_test 11 = .ok (.iload_n 3, 1) := by decide +kernel
theorem dX5_test_12 : decode cX5_test 12 = .ok (.ifCond .eq 102, 3) := by decide +kernel
theorem dX5_test_15 : decode cX5_test 15 = .ok (.iload 4, 2) := by decide +kernel
theorem dX5_test_17 : decode cX5_test 17 = .ok (.sipush 400, 3) := by decide +kernel
theorem dX5_test_20 : decode cX5_test 20 = .ok (.if_icmp .ge 94, 3) := by decide +kernel
theorem dX5_test_23 : decode cX5_test 23 = .ok (.aload_n 0, 1) := by decide +kernel
theorem dX5_test_24 : decode cX5_test 24 = .ok (.getfield 9, 3) := by decide +kernel
theorem dX5_test_27 : decode cX5_test 27 = .ok (.ldc 76, 2) := by decide +kernel
theorem dX5_test_29 : decode cX5_test 29 = .ok (.invokevirtual 42, 3) := by decide +kernel
theorem dX5_test_32 : decode cX5_test 32 = .ok (.istore 5, 2) := by decide +kernel
theorem dX5_test_34 : decode cX5_test 34 = .ok (.iload 5, 2) := by decide +kernel
theorem dX5_test_36 : decode cX5_test 36 = .ok (.iconst (-1), 1) := by decide +kernel
theorem dX5_test_37 : decode cX5_test 37 = .ok (.if_icmp .ne 6, 3) := by decide +kernel
theorem dX5_test_40 : decode cX5_test 40 = .ok (.goto 74, 3) := by decide +kernel
theorem dX5_test_43 : decode cX5_test 43 = .ok (.aload_n 0, 1) := by decide +kernel
theorem dX5_test_44 : decode cX5_test 44 = .ok (.getfield 9, 3) := by decide +kernel
theorem dX5_test_47 : decode cX5_test 47 = .ok (.invokevirtual 46, 3) := by decide +kernel
theorem dX5_test_50 : decode cX5_test 50 = .ok (.iload 5, 2) := by decide +kernel
theorem dX5_test_52 : decode cX5_test 52 = .ok (.ifCond .ne 32, 3) := by decide +kernel
theorem dX5_test_55 : decode cX5_test 55 = .ok (.aload_n 0, 1) := by decide +kernel
theorem dX5_test_56 : decode cX5_test 56 = .ok (.getfield 15, 3) := by decide +kernel
theorem dX5_test_59 : decode cX5_test 59 = .ok (.iconst 2, 1) := by decide +kernel
theorem dX5_test_60 : decode cX5_test 60 = .ok (.iconst 0, 1) := by decide +kernel
theorem dX5_test_61 : decode cX5_test 61 = .ok (.invokevirtual 52, 3) := by decide +kernel
theorem dX5_test_64 : decode cX5_test 64 = .ok (.istore 6, 2) := by decide +kernel
theorem dX5_test_66 : decode cX5_test 66 = .ok (.aload_n 0, 1) := by decide +kernel
theorem dX5_test_67 : decode cX5_test 67 = .ok (.iload_n 1, 1) := by decide +kernel
theorem dX5_test_68 : decode cX5_test 68 = .ok (.invokevirtual 73, 3) := by decide +kernel
theorem dX5_test_71 : decode cX5_test 71 = .ok (.istore_n 3, 1) := by decide +kernel
theorem dX5_test_72 : decode cX5_test 72 = .ok (.aload_n 0, 1) := by decide +kernel
theorem dX5_test_73 : decode cX5_test 73 = .ok (.getfield 15, 3) := by decide +kernel
theorem dX5_test_76 : decode cX5_test 76 = .ok (.iload 6, 2) := by decide +kernel
theorem dX5_test_78 : decode cX5_test 78 = .ok (.invokevirtual 56, 3) := by decide +kernel
theorem dX5_test_81 : decode cX5_test 81 = .ok (.goto 27, 3) := by decide +kernel
theorem dX5_test_84 : decode cX5_test 84 = .ok (.aload_n 0, 1) := by decide +kernel
theorem dX5_test_85 : decode cX5_test 85 = .ok (.getfield 15, 3) := by decide +kernel
theorem dX5_test_88 : decode cX5_test 88 = .ok (.iload_n 2, 1) := by decide +kernel
theorem dX5_test_89 : decode cX5_test 89 = .ok (.invokevirtual 56, 3) := by decide +kernel
theorem dX5_test_92 : decode cX5_test 92 = .ok (.aload_n 0, 1) := by decide +kernel
theorem dX5_test_93 : decode cX5_test 93 = .ok (.getfield 15, 3) := by decide +kernel
theorem dX5_test_96 : decode cX5_test 96 = .ok (.iconst 3, 1) := by decide +kernel
theorem dX5_test_97 : decode cX5_test 97 = .ok (.iconst 0, 1) := by decide +kernel
theorem dX5_test_98 : decode cX5_test 98 = .ok (.invokevirtual 52, 3) := by decide +kernel
theorem dX5_test_101 : decode cX5_test 101 = .ok (.istore_n 2, 1) := by decide +kernel
theorem dX5_test_102 : decode cX5_test 102 = .ok (.aload_n 0, 1) := by decide +kernel
theorem dX5_test_103 : decode cX5_test 103 = .ok (.iload_n 1, 1) := by decide +kernel
theorem dX5_test_104 : decode cX5_test 104 = .ok (.invokevirtual 73, 3) := by decide +kernel
theorem dX5_test_107 : decode cX5_test 107 = .ok (.istore_n 3, 1) := by decide +kernel
theorem dX5_test_108 : decode cX5_test 108 = .ok (.iinc 4 1, 3) := by decide +kernel
theorem dX5_test_111 : decode cX5_test 111 = .ok (.goto (-100), 3) := by decide +kernel
theorem dX5_test_114 : decode cX5_test 114 = .ok (.aload_n 0, 1) := by decide +kernel
theorem dX5_test_115 : decode cX5_test 115 = .ok (.getfield 15, 3) := by decide +kernel
theorem dX5_test_118 : decode cX5_test 118 = .ok (.iload_n 2, 1) := by decide +kernel
theorem dX5_test_119 : decode cX5_test 119 = .ok (.invokevirtual 56, 3) := by decide +kernel
theorem dX5_test_122 : decode cX5_test 122 = .ok (.iload_n 3, 1) := by decide +kernel
theorem dX5_test_123 : decode cX5_test 123 = .ok (.ireturn, 1) := by decide +kernel
theorem dX5_fact_0 : decode cX5_fact 0 = .ok (.aload_n 0, 1) := by decide +kernel
theorem dX5_fact_1 : decode cX5_fact 1 = .ok (.getfield 9, 3) := by decide +kernel
theorem dX5_fact_4 : decode cX5_fact 4 = .ok (.ldc 78, 2) := by decide +kernel
theorem dX5_fact_6 : decode cX5_fact 6 = .ok (.invokevirtual 42, 3) := by decide +kernel
theorem dX5_fact_9 : decode cX5_fact 9 = .ok (.iconst (-1), 1) := by decide +kernel
theorem dX5_fact_10 : decode cX5_fact 10 = .ok (.if_icmp .ne 16, 3) := by decide +kernel
theorem dX5_fact_13 : decode cX5_fact 13 = .ok (.aload_n 0, 1) := by decide +kernel
theorem dX5_fact_14 : decode cX5_fact 14 = .ok (.getfield 9, 3) := by decide +kernel
theorem dX5_fact_17 : decode cX5_fact 17 = .ok (.ldc 80, 2) := by decide +kernel
theorem dX5_fact_19 : decode cX5_fact 19 = .ok (.invokevirtual 82, 3) := by decide +kernel
theorem dX5_fact_22 : decode cX5_fact 22 = .ok (.iconst (-1), 1) := by decide +kernel
theorem dX5_fact_23 : decode cX5_fact 23 = .ok (.if_icmp .eq 9, 3) := by decide +kernel
theorem dX5_fact_26 : decode cX5_fact 26 = .ok (.aload_n 0, 1) := by decide +kernel
theorem dX5_fact_27 : decode cX5_fact 27 = .ok (.iload_n 1, 1) := by decide +kernel
theorem dX5_fact_28 : decode cX5_fact 28 = .ok (.invokevirtual 85, 3) := by decide +kernel
theorem dX5_fact_31 : decode cX5_fact 31 = .ok (.ireturn, 1) := by decide +kernel
theorem dX5_fact_32 : decode cX5_fact 32 = .ok (.aload_n 0, 1) := by decide +kernel
theorem dX5_fact_33 : decode cX5_fact 33 = .ok (.getfield 15, 3) := by decide +kernel
theorem dX5_fact_36 : decode cX5_fact 36 = .ok (.invokevirtual 29, 3) := by decide +kernel
theorem dX5_fact_39 : decode cX5_fact 39 = .ok (.istore_n 2, 1) := by decide +kernel
theorem dX5_fact_40 : decode cX5_fact 40 = .ok (.aload_n 0, 1) := by decide +kernel
theorem dX5_fact_41 : decode cX5_fact 41 = .ok (.iload_n 2, 1) := by decide +kernel
theorem dX5_fact_42 : decode cX5_fact 42 = .ok (.invokevirtual 37, 3) := by decide +kernel
theorem dX5_fact_45 : decode cX5_fact 45 = .ok (.ifCond .ne 5, 3) := by decide +kernel
theorem dX5_fact_48 : decode cX5_fact 48 = .ok (.iconst 0, 1) := by decide +kernel
theorem dX5_fact_49 : decode cX5_fact 49 = .ok (.ireturn, 1) := by decide +kernel
theorem dX5_fact_50 : decode cX5_fact 50 = .ok (.aload_n 0, 1) := by decide +kernel
theorem dX5_fact_51 : decode cX5_fact 51 = .ok (.getfield 9, 3) := by decide +kernel
theorem dX5_fact_54 : decode cX5_fact 54 = .ok (.ldc 88, 2) := by decide +kernel
theorem dX5_fact_56 : decode cX5_fact 56 = .ok (.invokevirtual 82, 3) := by decide +kernel
theorem dX5_fact_59 : decode cX5_fact 59 = .ok (.istore_n 3, 1) := by decide +kernel
theorem dX5_fact_60 : decode cX5_fact 60 = .ok (.iload_n 3, 1) := by decide +kernel
theorem dX5_fact_61 : decode cX5_fact 61 = .ok (.iconst (-1), 1) := by decide +kernel
theorem dX5_fact_62 : decode cX5_fact 62 = .ok (.if_icmp .eq 13, 3) := by decide +kernel
theorem dX5_fact_65 : decode cX5_fact 65 = .ok (.aload_n 0, 1) := by decide +kernel
theorem dX5_fact_66 : decode cX5_fact 66 = .ok (.getfield 15, 3) := by decide +kernel
theorem dX5_fact_69 : decode cX5_fact 69 = .ok (.invokevirtual 90, 3) := by decide +kernel
theorem dX5_fact_72 : decode cX5_fact 72 = .ok (.ifCond .eq 21, 3) := by decide +kernel
theorem dX5_fact_75 : decode cX5_fact 75 = .ok (.aload_n 0, 1) := by decide +kernel
theorem dX5_fact_76 : decode cX5_fact 76 = .ok (.getfield 9, 3) := by decide +kernel
theorem dX5_fact_79 : decode cX5_fact 79 = .ok (.iload_n 3, 1) := by decide +kernel
theorem dX5_fact_80 : decode cX5_fact 80 = .ok (.iconst (-1), 1) := by decide +kernel
theorem dX5_fact_81 : decode cX5_fact 81 = .ok (.if_icmp .ne 7, 3) := by decide +kernel
theorem dX5_fact_84 : decode cX5_fact 84 = .ok (.iconst 0, 1) := by decide +kernel
theorem dX5_fact_85 : decode cX5_fact 85 = .ok (.goto 4, 3) := by decide +kernel
theorem dX5_fact_88 : decode cX5_fact 88 = .ok (.iconst 3, 1) := by decide +kernel
theorem dX5_fact_89 : decode cX5_fact 89 = .ok (.invokevirtual 70, 3) := by decide +kernel
theorem dX5_fact_92 : decode cX5_fact 92 = .ok (.ireturn, 1) := by decide +kernel
theorem dX5_fact_93 : decode cX5_fact 93 = .ok (.aload_n 0, 1) := by decide +kernel
theorem dX5_fact_94 : decode cX5_fact 94 = .ok (.getfield 15, 3) := by decide +kernel
theorem dX5_fact_97 : decode cX5_fact 97 = .ok (.invokevirtual 93, 3) := by decide +kernel
theorem dX5_fact_100 : decode cX5_fact 100 = .ok (.aload_n 0, 1) := by decide +kernel
theorem dX5_fact_101 : decode cX5_fact 101 = .ok (.getfield 9, 3) := by decide +kernel
theorem dX5_fact_104 : decode cX5_fact 104 = .ok (.invokevirtual 46, 3) := by decide +kernel
theorem dX5_fact_107 : decode cX5_fact 107 = .ok (.aload_n 0, 1) := by decide +kernel
theorem dX5_fact_108 : decode cX5_fact 108 = .ok (.aload_n 0, 1) := by decide +kernel
theorem dX5_fact_109 : decode cX5_fact 109 = .ok (.getfield 15, 3) := by decide +kernel
theorem dX5_fact_112 : decode cX5_fact 112 = .ok (.invokevirtual 29, 3) := by decide +kernel
theorem dX5_fact_115 : decode cX5_fact 115 = .ok (.invokevirtual 37, 3) := by decide +kernel
theorem dX5_fact_118 : decode cX5_fact 118 = .ok (.ifCond .ne 5, 3) := by decide +kernel
theorem dX5_fact_121 : decode cX5_fact 121 = .ok (.iconst 0, 1) := by decide +kernel
theorem dX5_fact_122 : decode cX5_fact 122 = .ok (.ireturn, 1) := by decide +kernel
theorem dX5_fact_123 : decode cX5_fact 123 = .ok (.aload_n 0, 1) := by decide +kernel
theorem dX5_fact_124 : decode cX5_fact 124 = .ok (.getfield 15, 3) := by decide +kernel
theorem dX5_fact_127 : decode cX5_fact 127 = .ok (.iload_n 3, 1) := by decide +kernel
theorem dX5_fact_128 : decode cX5_fact 128 = .ok (.iload_n 2, 1) := by decide +kernel
theorem dX5_fact_129 : decode cX5_fact 129 = .ok (.invokevirtual 52, 3) := by decide +kernel
theorem dX5_fact_132 : decode cX5_fact 132 = .ok (.pop, 1) := by decide +kernel
theorem dX5_fact_133 : decode cX5_fact 133 = .ok (.iconst 1, 1) := by decide +kernel
theorem dX5_fact_134 : decode cX5_fact 134 = .ok (.ireturn, 1) := by decide +kernel
theorem dX5_innerFact_0 : decode cX5_innerFact 0 = .ok (.iload_n 1, 1) := by decide +kernel
theorem dX5_innerFact_1 : decode cX5_innerFact 1 = .ok (.bipush 10, 2) := by decide +kernel
theorem dX5_innerFact_3 : decode cX5_innerFact 3 = .ok (.if_icmp .lt 12, 3) := by decide +kernel
theorem dX5_innerFact_6 : decode cX5_innerFact 6 = .ok (.aload_n 0, 1) := by decide +kernel
theorem dX5_innerFact_7 : decode cX5_innerFact 7 = .ok (.getfield 9, 3) := by decide +kernel
theorem dX5_innerFact_10 : decode cX5_innerFact 10 = .ok (.iconst 2, 1) := by decide +kernel
theorem dX5_innerFact_11 : decode cX5_innerFact 11 = .ok (.invokevirtual 70, 3) := by decide +kernel
theorem dX5_innerFact_14 : decode cX5_innerFact 14 = .ok (.ireturn, 1) := by decide +kernel
theorem dX5_innerFact_15 : decode cX5_innerFact 15 = .ok (.aload_n 0, 1) := by decide +kernel
theorem dX5_innerFact_16 : decode cX5_innerFact 16 = .ok (.getfield 9, 3) := by decide +kernel
theorem dX5_innerFact_19 : decode cX5_innerFact 19 = .ok (.getfield 96, 3) := by decide +kernel
theorem dX5_innerFact_22 : decode cX5_innerFact 22 = .ok (.iconst 1, 1) := by decide +kernel
theorem dX5_innerFact_23 : decode cX5_innerFact 23 = .ok (.if_icmp .ne 7, 3) := by decide +kernel
theorem dX5_innerFact_26 : decode cX5_innerFact 26 = .ok (.iconst 1, 1) := by decide +kernel
theorem dX5_innerFact_27 : decode cX5_innerFact 27 = .ok (.goto 4, 3) := by decide +kernel
theorem dX5_innerFact_30 : decode cX5_innerFact 30 = .ok (.iconst 0, 1) := by decide +kernel
theorem dX5_innerFact_31 : decode cX5_innerFact 31 = .ok (.istore_n 2, 1) := by decide +kernel
theorem dX5_innerFact_32 : decode cX5_innerFact 32 = .ok (.aload_n 0, 1) := by decide +kernel
theorem dX5_innerFact_33 : decode cX5_innerFact 33 = .ok (.getfield 9, 3) := by decide +kernel
theorem dX5_innerFact_36 : decode cX5_innerFact 36 = .ok (.invokevirtual 46, 3) := by decide +kernel
theorem dX5_innerFact_39 : decode cX5_innerFact 39 = .ok (.iload_n 2, 1) := by decide +kernel
theorem dX5_innerFact_40 : decode cX5_innerFact 40 = .ok (.ifCond .eq 23, 3) := by decide +kernel
theorem dX5_innerFact_43 : decode cX5_innerFact 43 = .ok (.aload_n 0, 1) := by decide +kernel
theorem dX5_innerFact_44 : decode cX5_innerFact 44 = .ok (.iload_n 1, 1) := by decide +kernel
theorem dX5_innerFact_45 : decode cX5_innerFact 45 = .ok (.iconst 1, 1) := by decide +kernel
theorem dX5_innerFact_46 : decode cX5_innerFact 46 = .ok (.iadd, 1) := by decide +kernel
theorem dX5_innerFact_47 : decode cX5_innerFact 47 = .ok (.invokevirtual 73, 3) := by decide +kernel
theorem dX5_innerFact_50 : decode cX5_innerFact 50 = .ok (.istore_n 3, 1) := by decide +kernel
theorem dX5_innerFact_51 : decode cX5_innerFact 51 = .ok (.aload_n 0, 1) := by decide +kernel
theorem dX5_innerFact_52 : decode cX5_innerFact 52 = .ok (.getfield 15, 3) := by decide +kernel
theorem dX5_innerFact_55 : decode cX5_innerFact 55 = .ok (.iconst 1, 1) := by decide +kernel
theorem dX5_innerFact_56 : decode cX5_innerFact 56 = .ok (.iconst 0, 1) := by decide +kernel
theorem dX5_innerFact_57 : decode cX5_innerFact 57 = .ok (.invokevirtual 52, 3) := by decide +kernel
theorem dX5_innerFact_60 : decode cX5_innerFact 60 = .ok (.pop, 1) := by decide +kernel
theorem dX5_innerFact_61 : decode cX5_innerFact 61 = .ok (.iload_n 3, 1) := by decide +kernel
theorem dX5_innerFact_62 : decode cX5_innerFact 62 = .ok (.ireturn, 1) := by decide +kernel
theorem dX5_innerFact_63 : decode cX5_innerFact 63 = .ok (.aload_n 0, 1) := by decide +kernel
theorem dX5_innerFact_64 : decode cX5_innerFact 64 = .ok (.iload_n 1, 1) := by decide +kernel
theorem dX5_innerFact_65 : decode cX5_innerFact 65 = .ok (.iconst 1, 1) := by decide +kernel
theorem dX5_innerFact_66 : decode cX5_innerFact 66 = .ok (.iadd, 1) := by decide +kernel
theorem dX5_innerFact_67 : decode cX5_innerFact 67 = .ok (.invokevirtual 49, 3) := by decide +kernel
theorem dX5_innerFact_70 : decode cX5_innerFact 70 = .ok (.ifCond .ne 5, 3) := by decide +kernel
theorem dX5_innerFact_73 : decode cX5_innerFact 73 = .ok (.iconst 0, 1) := by decide +kernel
theorem dX5_innerFact_74 : decode cX5_innerFact 74 = .ok (.ireturn, 1) := by decide +kernel
theorem dX5_innerFact_75 : decode cX5_innerFact 75 = .ok (.aload_n 0, 1) := by decide +kernel
theorem dX5_innerFact_76 : decode cX5_innerFact 76 = .ok (.getfield 9, 3) := by decide +kernel
theorem dX5_innerFact_79 : decode cX5_innerFact 79 = .ok (.ldc 99, 2) := by decide +kernel
theorem dX5_innerFact_81 : decode cX5_innerFact 81 = .ok (.invokevirtual 82, 3) := by decide +kernel
theorem dX5_innerFact_84 : decode cX5_innerFact 84 = .ok (.iconst (-1), 1) := by decide +kernel
theorem dX5_innerFact_85 : decode cX5_innerFact 85 = .ok (.if_icmp .ne 12, 3) := by decide +kernel
theorem dX5_innerFact_88 : decode cX5_innerFact 88 = .ok (.aload_n 0, 1) := by decide +kernel
theorem dX5_innerFact_89 : decode cX5_innerFact 89 = .ok (.getfield 9, 3) := by decide +kernel
theorem dX5_innerFact_92 : decode cX5_innerFact 92 = .ok (.iconst 0, 1) := by decide +kernel
theorem dX5_innerFact_93 : decode cX5_innerFact 93 = .ok (.invokevirtual 70, 3) := by decide +kernel
theorem dX5_innerFact_96 : decode cX5_innerFact 96 = .ok (.ireturn, 1) := by decide +kernel
theorem dX5_innerFact_97 : decode cX5_innerFact 97 = .ok (.aload_n 0, 1) := by decide +kernel
theorem dX5_innerFact_98 : decode cX5_innerFact 98 = .ok (.getfield 9, 3) := by decide +kernel
theorem dX5_innerFact_101 : decode cX5_innerFact 101 = .ok (.invokevirtual 46, 3) := by decide +kernel
theorem dX5_innerFact_104 : decode cX5_innerFact 104 = .ok (.iconst 1, 1) := by decide +kernel
theorem dX5_innerFact_105 : decode cX5_innerFact 105 = .ok (.ireturn, 1) := by decide +kernel
theorem dX5_sum_0 : decode cX5_sum 0 = .ok (.bipush 43, 2) := by decide +kernel
theorem dX5_sum_2 : decode cX5_sum 2 = .ok (.istore_n 2, 1) := by decide +kernel
theorem dX5_sum_3 : decode cX5_sum 3 = .ok (.iconst 0, 1) := by decide +kernel
theorem dX5_sum_4 : decode cX5_sum 4 = .ok (.istore_n 3, 1) := by decide +kernel
theorem dX5_sum_5 : decode cX5_sum 5 = .ok (.iload_n 3, 1) := by decide +kernel
theorem dX5_sum_6 : decode cX5_sum 6 = .ok (.sipush 400, 3) := by decide +kernel
theorem dX5_sum_9 : decode cX5_sum 9 = .ok (.if_icmp .ge 46, 3) := by decide +kernel
theorem dX5_sum_12 : decode cX5_sum 12 = .ok (.iload_n 2, 1) := by decide +kernel
theorem dX5_sum_13 : decode cX5_sum 13 = .ok (.iconst (-1), 1) := by decide +kernel
theorem dX5_sum_14 : decode cX5_sum 14 = .ok (.if_icmp .eq 41, 3) := by decide +kernel
theorem dX5_sum_17 : decode cX5_sum 17 = .ok (.aload_n 0, 1) := by decide +kernel
theorem dX5_sum_18 : decode cX5_sum 18 = .ok (.iload_n 2, 1) := by decide +kernel
theorem dX5_sum_19 : decode cX5_sum 19 = .ok (.invokevirtual 101, 3) := by decide +kernel
theorem dX5_sum_22 : decode cX5_sum 22 = .ok (.ifCond .ne 5, 3) := by decide +kernel
theorem dX5_sum_25 : decode cX5_sum 25 = .ok (.iconst 0, 1) := by decide +kernel
theorem dX5_sum_26 : decode cX5_sum 26 = .ok (.ireturn, 1) := by decide +kernel
theorem dX5_sum_27 : decode cX5_sum 27 = .ok (.aload_n 0, 1) := by decide +kernel
theorem dX5_sum_28 : decode cX5_sum 28 = .ok (.getfield 9, 3) := by decide +kernel
theorem dX5_sum_31 : decode cX5_sum 31 = .ok (.ldc 104, 2) := by decide +kernel
theorem dX5_sum_33 : decode cX5_sum 33 = .ok (.invokevirtual 82, 3) := by decide +kernel
theorem dX5_sum_36 : decode cX5_sum 36 = .ok (.istore_n 2, 1) := by decide +kernel
theorem dX5_sum_37 : decode cX5_sum 37 = .ok (.iload_n 2, 1) := by decide +kernel
theorem dX5_sum_38 : decode cX5_sum 38 = .ok (.iconst (-1), 1) := by decide +kernel
theorem dX5_sum_39 : decode cX5_sum 39 = .ok (.if_icmp .eq 10, 3) := by decide +kernel
theorem dX5_sum_42 : decode cX5_sum 42 = .ok (.aload_n 0, 1) := by decide +kernel
theorem dX5_sum_43 : decode cX5_sum 43 = .ok (.getfield 9, 3) := by decide +kernel
theorem dX5_sum_46 : decode cX5_sum 46 = .ok (.invokevirtual 46, 3) := by decide +kernel
theorem dX5_sum_49 : decode cX5_sum 49 = .ok (.iinc 3 1, 3) := by decide +kernel
theorem dX5_sum_52 : decode cX5_sum 52 = .ok (.goto (-47), 3) := by decide +kernel
theorem dX5_sum_55 : decode cX5_sum 55 = .ok (.aload_n 0, 1) := by decide +kernel
theorem dX5_sum_56 : decode cX5_sum 56 = .ok (.getfield 15, 3) := by decide +kernel
theorem dX5_sum_59 : decode cX5_sum 59 = .ok (.iload_n 1, 1) := by decide +kernel
theorem dX5_sum_60 : decode cX5_sum 60 = .ok (.invokevirtual 106, 3) := by decide +kernel
theorem dX5_sum_63 : decode cX5_sum 63 = .ok (.iconst 1, 1) := by decide +kernel
theorem dX5_sum_64 : decode cX5_sum 64 = .ok (.ireturn, 1) := by decide +kernel
theorem dX5_addValue_0 : decode cX5_addValue 0 = .ok (.aload_n 0, 1) := by decide +kernel
theorem dX5_addValue_1 : decode cX5_addValue 1 = .ok (.getfield 9, 3) := by decide +kernel
theorem dX5_addValue_4 : decode cX5_addValue 4 = .ok (.ldc 109, 2) := by decide +kernel
theorem dX5_addValue_6 : decode cX5_addValue 6 = .ok (.invokevirtual 42, 3) := by decide +kernel
theorem dX5_addValue_9 : decode cX5_addValue 9 = .ok (.istore_n 2, 1) := by decide +kernel
theorem dX5_addValue_10 : decode cX5_addValue 10 = .ok (.iload_n 2, 1) := by decide +kernel
theorem dX5_addValue_11 : decode cX5_addValue 11 = .ok (.iconst (-1), 1) := by decide +kernel
theorem dX5_addValue_12 : decode cX5_addValue 12 = .ok (.if_icmp .ne 23, 3) := by decide +kernel
theorem dX5_addValue_15 : decode cX5_addValue 15 = .ok (.aload_n 0, 1) := by decide +kernel
theorem dX5_addValue_16 : decode cX5_addValue 16 = .ok (.getfield 9, 3) := by decide +kernel
theorem dX5_addValue_19 : decode cX5_addValue 19 = .ok (.getfield 96, 3) := by decide +kernel
theorem dX5_addValue_22 : decode cX5_addValue 22 = .ok (.iconst 2, 1) := by decide +kernel
theorem dX5_addValue_23 : decode cX5_addValue 23 = .ok (.if_icmp .eq 12, 3) := by decide +kernel
theorem dX5_addValue_26 : decode cX5_addValue 26 = .ok (.aload_n 0, 1) := by decide +kernel
theorem dX5_addValue_27 : decode cX5_addValue 27 = .ok (.getfield 9, 3) := by decide +kernel
theorem dX5_addValue_30 : decode cX5_addValue 30 = .ok (.iconst 0, 1) := by decide +kernel
theorem dX5_addValue_31 : decode cX5_addValue 31 = .ok (.invokevirtual 70, 3) := by decide +kernel
theorem dX5_addValue_34 : decode cX5_addValue 34 = .ok (.ireturn, 1) := by decide +kernel
theorem dX5_addValue_35 : decode cX5_addValue 35 = .ok (.iload_n 2, 1) := by decide +kernel
theorem dX5_addValue_36 : decode cX5_addValue 36 = .ok (.iconst (-1), 1) := by decide +kernel
theorem dX5_addValue_37 : decode cX5_addValue 37 = .ok (.if_icmp .ne 13, 3) := by decide +kernel
theorem dX5_addValue_40 : decode cX5_addValue 40 = .ok (.aload_n 0, 1) := by decide +kernel
theorem dX5_addValue_41 : decode cX5_addValue 41 = .ok (.getfield 9, 3) := by decide +kernel
theorem dX5_addValue_44 : decode cX5_addValue 44 = .ok (.invokevirtual 111, 3) := by decide +kernel
theorem dX5_addValue_47 : decode cX5_addValue 47 = .ok (.goto 6, 3) := by decide +kernel
theorem dX5_addValue_50 : decode cX5_addValue 50 = .ok (.iload_n 2, 1) := by decide +kernel
theorem dX5_addValue_51 : decode cX5_addValue 51 = .ok (.iconst (-1), 1) := by decide +kernel
theorem dX5_addValue_52 : decode cX5_addValue 52 = .ok (.ixor, 1) := by decide +kernel
theorem dX5_addValue_53 : decode cX5_addValue 53 = .ok (.istore_n 3, 1) := by decide +kernel
theorem dX5_addValue_54 : decode cX5_addValue 54 = .ok (.iload_n 2, 1) := by decide +kernel
theorem dX5_addValue_55 : decode cX5_addValue 55 = .ok (.iconst (-1), 1) := by decide +kernel
theorem dX5_addValue_56 : decode cX5_addValue 56 = .ok (.if_icmp .ne 17, 3) := by decide +kernel
theorem dX5_addValue_59 : decode cX5_addValue 59 = .ok (.iload_n 3, 1) := by decide +kernel
theorem dX5_addValue_60 : decode cX5_addValue 60 = .ok (.iconst (-1), 1) := by decide +kernel
theorem dX5_addValue_61 : decode cX5_addValue 61 = .ok (.if_icmp .ne 12, 3) := by decide +kernel
theorem dX5_addValue_64 : decode cX5_addValue 64 = .ok (.aload_n 0, 1) := by decide +kernel
theorem dX5_addValue_65 : decode cX5_addValue 65 = .ok (.getfield 9, 3) := by decide +kernel
theorem dX5_addValue_68 : decode cX5_addValue 68 = .ok (.iconst 1, 1) := by decide +kernel
theorem dX5_addValue_69 : decode cX5_addValue 69 = .ok (.invokevirtual 70, 3) := by decide +kernel
theorem dX5_addValue_72 : decode cX5_addValue 72 = .ok (.ireturn, 1) := by decide +kernel
theorem dX5_addValue_73 : decode cX5_addValue 73 = .ok (.aload_n 0, 1) := by decide +kernel
theorem dX5_addValue_74 : decode cX5_addValue 74 = .ok (.getfield 15, 3) := by decide +kernel
theorem dX5_addValue_77 : decode cX5_addValue 77 = .ok (.invokevirtual 90, 3) := by decide +kernel
theorem dX5_addValue_80 : decode cX5_addValue 80 = .ok (.ifCond .eq 12, 3) := by decide +kernel
theorem dX5_addValue_83 : decode cX5_addValue 83 = .ok (.aload_n 0, 1) := by decide +kernel
theorem dX5_addValue_84 : decode cX5_addValue 84 = .ok (.getfield 9, 3) := by decide +kernel
theorem dX5_addValue_87 : decode cX5_addValue 87 = .ok (.iconst 3, 1) := by decide +kernel
theorem dX5_addValue_88 : decode cX5_addValue 88 = .ok (.invokevirtual 70, 3) := by decide +kernel
theorem dX5_addValue_91 : decode cX5_addValue 91 = .ok (.ireturn, 1) := by decide +kernel
theorem dX5_addValue_92 : decode cX5_addValue 92 = .ok (.aload_n 0, 1) := by decide +kernel
theorem dX5_addValue_93 : decode cX5_addValue 93 = .ok (.getfield 15, 3) := by decide +kernel
theorem dX5_addValue_96 : decode cX5_addValue 96 = .ok (.iload_n 1, 1) := by decide +kernel
theorem dX5_addValue_97 : decode cX5_addValue 97 = .ok (.iload_n 3, 1) := by decide +kernel
theorem dX5_addValue_98 : decode cX5_addValue 98 = .ok (.invokevirtual 114, 3) := by decide +kernel
theorem dX5_addValue_101 : decode cX5_addValue 101 = .ok (.aload_n 0, 1) := by decide +kernel
theorem dX5_addValue_102 : decode cX5_addValue 102 = .ok (.getfield 9, 3) := by decide +kernel
theorem dX5_addValue_105 : decode cX5_addValue 105 = .ok (.invokevirtual 46, 3) := by decide +kernel
theorem dX5_addValue_108 : decode cX5_addValue 108 = .ok (.iconst 1, 1) := by decide +kernel
theorem dX5_addValue_109 : decode cX5_addValue 109 = .ok (.ireturn, 1) := by decide +kernel
theorem dX6_init_0 : decode cX6_init 0 = .ok (.aload_n 0, 1) := by decide +kernel
theorem dX6_init_1 : decode cX6_init 1 = .ok (.invokespecial 3, 3) := by decide +kernel
theorem dX6_init_4 : decode cX6_init 4 = .ok (.aload_n 0, 1) := by decide +kernel
theorem dX6_init_5 : decode cX6_init 5 = .ok (.new 9, 3) := by decide +kernel
theorem dX6_init_8 : decode cX6_init 8 = .ok (.dup, 1) := by decide +kernel
theorem dX6_init_9 : decode cX6_init 9 = .ok (.invokespecial 11, 3) := by decide +kernel
theorem dX6_init_12 : decode cX6_init 12 = .ok (.putfield 12, 3) := by decide +kernel
theorem dX6_init_15 : decode cX6_init 15 = .ok (.aload_n 0, 1) := by decide +kernel
theorem dX6_init_16 : decode cX6_init 16 = .ok (.new 18, 3) := by decide +kernel
theorem dX6_init_19 : decode cX6_init 19 = .ok (.dup, 1) := by decide +kernel
theorem dX6_init_20 : decode cX6_init 20 = .ok (.invokespecial 20, 3) := by decide +kernel
theorem dX6_init_23 : decode cX6_init 23 = .ok (.putfield 21, 3) := by decide +kernel
theorem dX6_init_26 : decode cX6_init 26 = .ok (.aload_n 0, 1) := by decide +kernel
theorem dX6_init_27 : decode cX6_init 27 = .ok (.new 25, 3) := by decide +kernel
theorem dX6_init_30 : decode cX6_init 30 = .ok (.dup, 1) := by decide +kernel
theorem dX6_init_31 : decode cX6_init 31 = .ok (.invokespecial 27, 3) := by decide +kernel
theorem dX6_init_34 : decode cX6_init 34 = .ok (.putfield 28, 3) := by decide +kernel
theorem dX6_init_37 : decode cX6_init 37 = .ok (.aload_n 0, 1) := by decide +kernel
theorem dX6_init_38 : decode cX6_init 38 = .ok (.iconst (-1), 1) := by decide +kernel
theorem dX6_init_39 : decode cX6_init 39 = .ok (.putfield 32, 3) := by decide +kernel
theorem dX6_init_42 : decode cX6_init 42 = .ok (.aload_n 0, 1) := by decide +kernel
theorem dX6_init_43 : decode cX6_init 43 = .ok (.bipush 10, 2) := by decide +kernel
theorem dX6_init_45 : decode cX6_init 45 = .ok (.newarray .int, 2) := by decide +kernel
theorem dX6_init_47 : decode cX6_init 47 = .ok (.putfield 36, 3) := by decide +kernel
theorem dX6_init_50 : decode cX6_init 50 = .ok (.aload_n 0, 1) := by decide +kernel
theorem dX6_init_51 : decode cX6_init 51 = .ok (.bipush 10, 2) := by decide +kernel
theorem dX6_init_53 : decode cX6_init 53 = .ok (.newarray .int, 2) := by decide +kernel
theorem dX6_init_55 : decode cX6_init 55 = .ok (.putfield 40, 3) := by decide +kernel
theorem dX6_init_58 : decode cX6_init 58 = .ok (.aload_n 0, 1) := by decide +kernel
theorem dX6_init_59 : decode cX6_init 59 = .ok (.bipush 10, 2) := by decide +kernel
theorem dX6_init_61 : decode cX6_init 61 = .ok (.newarray .int, 2) := by decide +kernel
theorem dX6_init_63 : decode cX6_init 63 = .ok (.putfield 43, 3) := by decide +kernel
theorem dX6_init_66 : decode cX6_init 66 = .ok (.return_, 1) := by decide +kernel
theorem dX6_move_0 : decode cX6_move 0 = .ok (.aload_n 0, 1) := by decide +kernel
theorem dX6_move_1 : decode cX6_move 1 = .ok (.aload_n 1, 1) := by decide +kernel
theorem dX6_move_2 : decode cX6_move 2 = .ok (.putfield 12, 3) := by decide +kernel
theorem dX6_move_5 : decode cX6_move 5 = .ok (.aload_n 0, 1) := by decide +kernel
theorem dX6_move_6 : decode cX6_move 6 = .ok (.getfield 21, 3) := by decide +kernel
theorem dX6_move_9 : decode cX6_move 9 = .ok (.aload_n 1, 1) := by decide +kernel
theorem dX6_move_10 : decode cX6_move 10 = .ok (.invokevirtual 46, 3) := by decide +kernel
theorem dX6_move_13 : decode cX6_move 13 = .ok (.aload_n 0, 1) := by decide +kernel
theorem dX6_move_14 : decode cX6_move 14 = .ok (.getfield 28, 3) := by decide +kernel
theorem dX6_move_17 : decode cX6_move 17 = .ok (.invokevirtual 50, 3) := by decide +kernel
theorem dX6_move_20 : decode cX6_move 20 = .ok (.aload_n 0, 1) := by decide +kernel
theorem dX6_move_21 : decode cX6_move 21 = .ok (.iconst 0, 1) := by decide +kernel
theorem dX6_move_22 : decode cX6_move 22 = .ok (.putfield 53, 3) := by decide +kernel
theorem dX6_move_25 : decode cX6_move 25 = .ok (.return_, 1) := by decide +kernel
theorem dX6_addNote_0 : decode cX6_addNote 0 = .ok (.aload_n 0, 1) := by decide +kernel
theorem dX6_addNote_1 : decode cX6_addNote 1 = .ok (.getfield 53, 3) := by decide +kernel
theorem dX6_addNote_4 : decode cX6_addNote 4 = .ok (.bipush 10, 2) := by decide +kernel
theorem dX6_addNote_6 : decode cX6_addNote 6 = .ok (.if_icmp .ge 43, 3) := by decide +kernel
theorem dX6_addNote_9 : decode cX6_addNote 9 = .ok (.aload_n 0, 1) := by decide +kernel
theorem dX6_addNote_10 : decode cX6_addNote 10 = .ok (.getfield 36, 3) := by decide +kernel
theorem dX6_addNote_13 : decode cX6_addNote 13 = .ok (.aload_n 0, 1) := by decide +kernel
theorem dX6_addNote_14 : decode cX6_addNote 14 = .ok (.getfield 53, 3) := by decide +kernel
theorem dX6_addNote_17 : decode cX6_addNote 17 = .ok (.iload_n 1, 1) := by decide +kernel
theorem dX6_addNote_18 : decode cX6_addNote 18 = .ok (.iastore, 1) := by decide +kernel
theorem dX6_addNote_19 : decode cX6_addNote 19 = .ok (.aload_n 0, 1) := by decide +kernel
theorem dX6_addNote_20 : decode cX6_addNote 20 = .ok (.getfield 40, 3) := by decide +kernel
theorem dX6_addNote_23 : decode cX6_addNote 23 = .ok (.aload_n 0, 1) := by decide +kernel
theorem dX6_addNote_24 : decode cX6_addNote 24 = .ok (.getfield 53, 3) := by decide +kernel
theorem dX6_addNote_27 : decode cX6_addNote 27 = .ok (.iload_n 2, 1) := by decide +kernel
theorem dX6_addNote_28 : decode cX6_addNote 28 = .ok (.iastore, 1) := by decide +kernel
theorem dX6_addNote_29 : decode cX6_addNote 29 = .ok (.aload_n 0, 1) := by decide +kernel
theorem dX6_addNote_30 : decode cX6_addNote 30 = .ok (.getfield 43, 3) := by decide +kernel
theorem dX6_addNote_33 : decode cX6_addNote 33 = .ok (.aload_n 0, 1) := by decide +kernel
theorem dX6_addNote_34 : decode cX6_addNote 34 = .ok (.getfield 53, 3) := by decide +kernel
theorem dX6_addNote_37 : decode cX6_addNote 37 = .ok (.iload_n 3, 1) := by decide +kernel
theorem dX6_addNote_38 : decode cX6_addNote 38 = .ok (.iastore, 1) := by decide +kernel
theorem dX6_addNote_39 : decode cX6_addNote 39 = .ok (.aload_n 0, 1) := by decide +kernel
theorem dX6_addNote_40 : decode cX6_addNote 40 = .ok (.dup, 1) := by decide +kernel
theorem dX6_addNote_41 : decode cX6_addNote 41 = .ok (.getfield 53, 3) := by decide +kernel
theorem dX6_addNote_44 : decode cX6_addNote 44 = .ok (.iconst 1, 1) := by decide +kernel
theorem dX6_addNote_45 : decode cX6_addNote 45 = .ok (.iadd, 1) := by decide +kernel
theorem dX6_addNote_46 : decode cX6_addNote 46 = .ok (.putfield 53, 3) := by decide +kernel
theorem dX6_addNote_49 : decode cX6_addNote 49 = .ok (.return_, 1) := by decide +kernel
theorem dX6_copyFrom_0 : decode cX6_copyFrom 0 = .ok (.aload_n 0, 1) := by decide +kernel
theorem dX6_copyFrom_1 : decode cX6_copyFrom 1 = .ok (.aload_n 1, 1) := by decide +kernel
theorem dX6_copyFrom_2 : decode cX6_copyFrom 2 = .ok (.getfield 12, 3) := by decide +kernel
theorem dX6_copyFrom_5 : decode cX6_copyFrom 5 = .ok (.putfield 12, 3) := by decide +kernel
theorem dX6_copyFrom_8 : decode cX6_copyFrom 8 = .ok (.aload_n 0, 1) := by decide +kernel
theorem dX6_copyFrom_9 : decode cX6_copyFrom 9 = .ok (.getfield 21, 3) := by decide +kernel
theorem dX6_copyFrom_12 : decode cX6_copyFrom 12 = .ok (.aload_n 1, 1) := by decide +kernel
theorem dX6_copyFrom_13 : decode cX6_copyFrom 13 = .ok (.getfield 21, 3) := by decide +kernel
theorem dX6_copyFrom_16 : decode cX6_copyFrom 16 = .ok (.invokevirtual 56, 3) := by decide +kernel
theorem dX6_copyFrom_19 : decode cX6_copyFrom 19 = .ok (.aload_n 0, 1) := by decide +kernel
theorem dX6_copyFrom_20 : decode cX6_copyFrom 20 = .ok (.getfield 28, 3) := by decide +kernel
theorem dX6_copyFrom_23 : decode cX6_copyFrom 23 = .ok (.aload_n 1, 1) := by decide +kernel
theorem dX6_copyFrom_24 : decode cX6_copyFrom 24 = .ok (.getfield 28, 3) := by decide +kernel
theorem dX6_copyFrom_27 : decode cX6_copyFrom 27 = .ok (.invokevirtual 60, 3) := by decide +kernel
theorem dX6_copyFrom_30 : decode cX6_copyFrom 30 = .ok (.aload_n 0, 1) := by decide +kernel
theorem dX6_copyFrom_31 : decode cX6_copyFrom 31 = .ok (.aload_n 1, 1) := by decide +kernel
theorem dX6_copyFrom_32 : decode cX6_copyFrom 32 = .ok (.getfield 32, 3) := by decide +kernel
theorem dX6_copyFrom_35 : decode cX6_copyFrom 35 = .ok (.putfield 32, 3) := by decide +kernel
theorem dX6_copyFrom_38 : decode cX6_copyFrom 38 = .ok (.aload_n 0, 1) := by decide +kernel
theorem dX6_copyFrom_39 : decode cX6_copyFrom 39 = .ok (.aload_n 1, 1) := by decide +kernel
theorem dX6_copyFrom_40 : decode cX6_copyFrom 40 = .ok (.getfield 63, 3) := by decide +kernel
theorem dX6_copyFrom_43 : decode cX6_copyFrom 43 = .ok (.putfield 63, 3) := by decide +kernel
theorem dX6_copyFrom_46 : decode cX6_copyFrom 46 = .ok (.aload_n 0, 1) := by decide +kernel
theorem dX6_copyFrom_47 : decode cX6_copyFrom 47 = .ok (.aload_n 1, 1) := by decide +kernel
theorem dX6_copyFrom_48 : decode cX6_copyFrom 48 = .ok (.getfield 53, 3) := by decide +kernel
theorem dX6_copyFrom_51 : decode cX6_copyFrom 51 = .ok (.putfield 53, 3) := by decide +kernel
theorem dX6_copyFrom_54 : decode cX6_copyFrom 54 = .ok (.aload_n 1, 1) := by decide +kernel
theorem dX6_copyFrom_55 : decode cX6_copyFrom 55 = .ok (.getfield 36, 3) := by decide +kernel
theorem dX6_copyFrom_58 : decode cX6_copyFrom 58 = .ok (.iconst 0, 1) := by decide +kernel
theorem dX6_copyFrom_59 : decode cX6_copyFrom 59 = .ok (.aload_n 0, 1) := by decide +kernel
theorem dX6_copyFrom_60 : decode cX6_copyFrom 60 = .ok (.getfield 36, 3) := by decide +kernel
theorem dX6_copyFrom_63 : decode cX6_copyFrom 63 = .ok (.iconst 0, 1) := by decide +kernel
theorem dX6_copyFrom_64 : decode cX6_copyFrom 64 = .ok (.bipush 10, 2) := by decide +kernel
theorem dX6_copyFrom_66 : decode cX6_copyFrom 66 = .ok (.invokestatic 66, 3) := by decide +kernel
theorem dX6_copyFrom_69 : decode cX6_copyFrom 69 = .ok (.aload_n 1, 1) := by decide +kernel
theorem dX6_copyFrom_70 : decode cX6_copyFrom 70 = .ok (.getfield 40, 3) := by decide +kernel
theorem dX6_copyFrom_73 : decode cX6_copyFrom 73 = .ok (.iconst 0, 1) := by decide +kernel
theorem dX6_copyFrom_74 : decode cX6_copyFrom 74 = .ok (.aload_n 0, 1) := by decide +kernel
theorem dX6_copyFrom_75 : decode cX6_copyFrom 75 = .ok (.getfield 40, 3) := by decide +kernel
theorem dX6_copyFrom_78 : decode cX6_copyFrom 78 = .ok (.iconst 0, 1) := by decide +kernel
theorem dX6_copyFrom_79 : decode cX6_copyFrom 79 = .ok (.bipush 10, 2) := by decide +kernel
theorem dX6_copyFrom_81 : decode cX6_copyFrom 81 = .ok (.invokestatic 66, 3) := by decide +kernel
theorem dX6_copyFrom_84 : decode cX6_copyFrom 84 = .ok (.aload_n 1, 1) := by decide +kernel
theorem dX6_copyFrom_85 : decode cX6_copyFrom 85 = .ok (.getfield 43, 3) := by decide +kernel
theorem dX6_copyFrom_88 : decode cX6_copyFrom 88 = .ok (.iconst 0, 1) := by decide +kernel
theorem dX6_copyFrom_89 : decode cX6_copyFrom 89 = .ok (.aload_n 0, 1) := by decide +kernel
theorem dX6_copyFrom_90 : decode cX6_copyFrom 90 = .ok (.getfield 43, 3) := by decide +kernel
theorem dX6_copyFrom_93 : decode cX6_copyFrom 93 = .ok (.iconst 0, 1) := by decide +kernel
theorem dX6_copyFrom_94 : decode cX6_copyFrom 94 = .ok (.bipush 10, 2) := by decide +kernel
theorem dX6_copyFrom_96 : decode cX6_copyFrom 96 = .ok (.invokestatic 66, 3) := by decide +kernel
theorem dX6_copyFrom_99 : decode cX6_copyFrom 99 = .ok (.return_, 1) := by decide +kernel
theorem dX6_share_0 : decode cX6_share 0 = .ok (.aload_n 0, 1) := by decide +kernel
theorem dX6_share_1 : decode cX6_share 1 = .ok (.getfield 21, 3) := by decide +kernel
theorem dX6_share_4 : decode cX6_share 4 = .ok (.invokevirtual 72, 3) := by decide +kernel
theorem dX6_share_7 : decode cX6_share 7 = .ok (.istore_n 3, 1) := by decide +kernel
theorem dX6_share_8 : decode cX6_share 8 = .ok (.iload_n 3, 1) := by decide +kernel
theorem dX6_share_9 : decode cX6_share 9 = .ok (.ifCond .ne 5, 3) := by decide +kernel
theorem dX6_share_12 : decode cX6_share 12 = .ok (.iconst 0, 1) := by decide +kernel
theorem dX6_share_13 : decode cX6_share 13 = .ok (.ireturn, 1) := by decide +kernel
theorem dX6_share_14 : decode cX6_share 14 = .ok (.iload_n 1, 1) := by decide +kernel
theorem dX6_share_15 : decode cX6_share 15 = .ok (.istore 4, 2) := by decide +kernel
theorem dX6_share_17 : decode cX6_share 17 = .ok (.iconst 0, 1) := by decide +kernel
theorem dX6_share_18 : decode cX6_share 18 = .ok (.istore 5, 2) := by decide +kernel
theorem dX6_share_20 : decode cX6_share 20 = .ok (.iload_n 1, 1) := by decide +kernel
theorem dX6_share_21 : decode cX6_share 21 = .ok (.aload_n 0, 1) := by decide +kernel
theorem dX6_share_22 : decode cX6_share 22 = .ok (.getfield 21, 3) := by decide +kernel
theorem dX6_share_25 : decode cX6_share 25 = .ok (.getfield 76, 3) := by decide +kernel
theorem dX6_share_28 : decode cX6_share 28 = .ok (.iload_n 2, 1) := by decide +kernel
theorem dX6_share_29 : decode cX6_share 29 = .ok (.iaload, 1) := by decide +kernel
theorem dX6_share_30 : decode cX6_share 30 = .ok (.imul, 1) := by decide +kernel
theorem dX6_share_31 : decode cX6_share 31 = .ok (.iload_n 3, 1) := by decide +kernel
theorem dX6_share_32 : decode cX6_share 32 = .ok (.irem, 1) := by decide +kernel
theorem dX6_share_33 : decode cX6_share 33 = .ok (.istore 6, 2) := by decide +kernel
theorem dX6_share_35 : decode cX6_share 35 = .ok (.iconst 0, 1) := by decide +kernel
theorem dX6_share_36 : decode cX6_share 36 = .ok (.istore 7, 2) := by decide +kernel
theorem dX6_share_38 : decode cX6_share 38 = .ok (.iload 7, 2) := by decide +kernel
theorem dX6_share_40 : decode cX6_share 40 = .ok (.aload_n 0, 1) := by decide +kernel
theorem dX6_share_41 : decode cX6_share 41 = .ok (.getfield 12, 3) := by decide +kernel
theorem dX6_share_44 : decode cX6_share 44 = .ok (.getfield 79, 3) := by decide +kernel
theorem dX6_share_47 : decode cX6_share 47 = .ok (.if_icmp .ge 67, 3) := by decide +kernel
theorem dX6_share_50 : decode cX6_share 50 = .ok (.iload 4, 2) := by decide +kernel
theorem dX6_share_52 : decode cX6_share 52 = .ok (.iload_n 1, 1) := by decide +kernel
theorem dX6_share_53 : decode cX6_share 53 = .ok (.aload_n 0, 1) := by decide +kernel
theorem dX6_share_54 : decode cX6_share 54 = .ok (.getfield 21, 3) := by decide +kernel
theorem dX6_share_57 : decode cX6_share 57 = .ok (.getfield 76, 3) := by decide +kernel
theorem dX6_share_60 : decode cX6_share 60 = .ok (.iload 7, 2) := by decide +kernel
theorem dX6_share_62 : decode cX6_share 62 = .ok (.iaload, 1) := by decide +kernel
theorem dX6_share_63 : decode cX6_share 63 = .ok (.imul, 1) := by decide +kernel
theorem dX6_share_64 : decode cX6_share 64 = .ok (.iload_n 3, 1) := by decide +kernel
theorem dX6_share_65 : decode cX6_share 65 = .ok (.idiv, 1) := by decide +kernel
theorem dX6_share_66 : decode cX6_share 66 = .ok (.isub, 1) := by decide +kernel
theorem dX6_share_67 : decode cX6_share 67 = .ok (.istore 4, 2) := by decide +kernel
theorem dX6_share_69 : decode cX6_share 69 = .ok (.iload_n 1, 1) := by decide +kernel
theorem dX6_share_70 : decode cX6_share 70 = .ok (.aload_n 0, 1) := by decide +kernel
theorem dX6_share_71 : decode cX6_share 71 = .ok (.getfield 21, 3) := by decide +kernel
theorem dX6_share_74 : decode cX6_share 74 = .ok (.getfield 76, 3) := by decide +kernel
theorem dX6_share_77 : decode cX6_share 77 = .ok (.iload 7, 2) := by decide +kernel
theorem dX6_share_79 : decode cX6_share 79 = .ok (.iaload, 1) := by decide +kernel
theorem dX6_share_80 : decode cX6_share 80 = .ok (.imul, 1) := by decide +kernel
theorem dX6_share_81 : decode cX6_share 81 = .ok (.iload_n 3, 1) := by decide +kernel
theorem dX6_share_82 : decode cX6_share 82 = .ok (.irem, 1) := by decide +kernel
theorem dX6_share_83 : decode cX6_share 83 = .ok (.istore 8, 2) := by decide +kernel
theorem dX6_share_85 : decode cX6_share 85 = .ok (.iload 8, 2) := by decide +kernel
theorem dX6_share_87 : decode cX6_share 87 = .ok (.iload 6, 2) := by decide +kernel
theorem dX6_share_89 : decode cX6_share 89 = .ok (.if_icmp .gt 16, 3) := by decide +kernel
theorem dX6_share_92 : decode cX6_share 92 = .ok (.iload 8, 2) := by decide +kernel
theorem dX6_share_94 : decode cX6_share 94 = .ok (.iload 6, 2) := by decide +kernel
theorem dX6_share_96 : decode cX6_share 96 = .ok (.if_icmp .ne 12, 3) := by decide +kernel
theorem dX6_share_99 : decode cX6_share 99 = .ok (.iload 7, 2) := by decide +kernel
theorem dX6_share_101 : decode cX6_share 101 = .ok (.iload_n 2, 1) := by decide +kernel
theorem dX6_share_102 : decode cX6_share 102 = .ok (.if_icmp .ge 6, 3) := by decide +kernel
theorem dX6_share_105 : decode cX6_share 105 = .ok (.iinc 5 1, 3) := by decide +kernel
theorem dX6_share_108 : decode cX6_share 108 = .ok (.iinc 7 1, 3) := by decide +kernel
theorem dX6_share_111 : decode cX6_share 111 = .ok (.goto (-73), 3) := by decide +kernel
theorem dX6_share_114 : decode cX6_share 114 = .ok (.iload_n 1, 1) := by decide +kernel
theorem dX6_share_115 : decode cX6_share 115 = .ok (.aload_n 0, 1) := by decide +kernel
theorem dX6_share_116 : decode cX6_share 116 = .ok (.getfield 21, 3) := by decide +kernel
theorem dX6_share_119 : decode cX6_share 119 = .ok (.getfield 76, 3) := by decide +kernel
theorem dX6_share_122 : decode cX6_share 122 = .ok (.iload_n 2, 1) := by decide +kernel
theorem dX6_share_123 : decode cX6_share 123 = .ok (.iaload, 1) := by decide +kernel
theorem dX6_share_124 : decode cX6_share 124 = .ok (.imul, 1) := by decide +kernel
theorem dX6_share_125 : decode cX6_share 125 = .ok (.iload_n 3, 1) := by decide +kernel
theorem dX6_share_126 : decode cX6_share 126 = .ok (.idiv, 1) := by decide +kernel
theorem dX6_share_127 : decode cX6_share 127 = .ok (.iload 5, 2) := by decide +kernel
theorem dX6_share_129 : decode cX6_share 129 = .ok (.iload 4, 2) := by decide +kernel
theorem dX6_share_131 : decode cX6_share 131 = .ok (.if_icmp .ge 7, 3) := by decide +kernel
theorem dX6_share_134 : decode cX6_share 134 = .ok (.iconst 1, 1) := by decide +kernel
theorem dX6_share_135 : decode cX6_share 135 = .ok (.goto 4, 3) := by decide +kernel
theorem dX6_share_138 : decode cX6_share 138 = .ok (.iconst 0, 1) := by decide +kernel
theorem dX6_share_139 : decode cX6_share 139 = .ok (.iadd, 1) := by decide +kernel
theorem dX6_share_140 : decode cX6_share 140 = .ok (.ireturn, 1) := by decide +kernel
theorem dX7_init_0 : decode cX7_init 0 = .ok (.aload_n 0, 1) := by decide +kernel
theorem dX7_init_1 : decode cX7_init 1 = .ok (.invokespecial 3, 3) := by decide +kernel
theorem dX7_init_4 : decode cX7_init 4 = .ok (.aload_n 0, 1) := by decide +kernel
theorem dX7_init_5 : decode cX7_init 5 = .ok (.iconst (-1), 1) := by decide +kernel
theorem dX7_init_6 : decode cX7_init 6 = .ok (.putfield 9, 3) := by decide +kernel
theorem dX7_init_9 : decode cX7_init 9 = .ok (.aload_n 0, 1) := by decide +kernel
theorem dX7_init_10 : decode cX7_init 10 = .ok (.bipush 6, 2) := by decide +kernel
theorem dX7_init_12 : decode cX7_init 12 = .ok (.newarray .int, 2) := by decide +kernel
theorem dX7_init_14 : decode cX7_init 14 = .ok (.putfield 15, 3) := by decide +kernel
theorem dX7_init_17 : decode cX7_init 17 = .ok (.aload_n 0, 1) := by decide +kernel
theorem dX7_init_18 : decode cX7_init 18 = .ok (.bipush 6, 2) := by decide +kernel
theorem dX7_init_20 : decode cX7_init 20 = .ok (.newarray .int, 2) := by decide +kernel
theorem dX7_init_22 : decode cX7_init 22 = .ok (.putfield 19, 3) := by decide +kernel
theorem dX7_init_25 : decode cX7_init 25 = .ok (.aload_n 0, 1) := by decide +kernel
theorem dX7_init_26 : decode cX7_init 26 = .ok (.bipush 6, 2) := by decide +kernel
theorem dX7_init_28 : decode cX7_init 28 = .ok (.newarray .int, 2) := by decide +kernel
theorem dX7_init_30 : decode cX7_init 30 = .ok (.putfield 22, 3) := by decide +kernel
theorem dX7_init_33 : decode cX7_init 33 = .ok (.aload_n 0, 1) := by decide +kernel
theorem dX7_init_34 : decode cX7_init 34 = .ok (.bipush 6, 2) := by decide +kernel
theorem dX7_init_36 : decode cX7_init 36 = .ok (.newarray .int, 2) := by decide +kernel
theorem dX7_init_38 : decode cX7_init 38 = .ok (.putfield 25, 3) := by decide +kernel
theorem dX7_init_41 : decode cX7_init 41 = .ok (.aload_n 0, 1) := by decide +kernel
theorem dX7_init_42 : decode cX7_init 42 = .ok (.bipush 6, 2) := by decide +kernel
theorem dX7_init_44 : decode cX7_init 44 = .ok (.newarray .int, 2) := by decide +kernel
theorem dX7_init_46 : decode cX7_init 46 = .ok (.putfield 28, 3) := by decide +kernel
theorem dX7_init_49 : decode cX7_init 49 = .ok (.aload_n 0, 1) := by decide +kernel
theorem dX7_init_50 : decode cX7_init 50 = .ok (.iconst 5, 1) := by decide +kernel
theorem dX7_init_51 : decode cX7_init 51 = .ok (.newarray .int, 2) := by decide +kernel
theorem dX7_init_53 : decode cX7_init 53 = .ok (.putfield 31, 3) := by decide +kernel
theorem dX7_init_56 : decode cX7_init 56 = .ok (.aload_n 0, 1) := by decide +kernel
theorem dX7_init_57 : decode cX7_init 57 = .ok (.bipush 30, 2) := by decide +kernel
theorem dX7_init_59 : decode cX7_init 59 = .ok (.newarray .int, 2) := by decide +kernel
theorem dX7_init_61 : decode cX7_init 61 = .ok (.putfield 34, 3) := by decide +kernel
theorem dX7_init_64 : decode cX7_init 64 = .ok (.return_, 1) := by decide +kernel
theorem dX7_begin_0 : decode cX7_begin 0 = .ok (.aload_n 0, 1) := by decide +kernel
theorem dX7_begin_1 : decode cX7_begin 1 = .ok (.iconst 0, 1) := by decide +kernel
theorem dX7_begin_2 : decode cX7_begin 2 = .ok (.putfield 37, 3) := by decide +kernel
theorem dX7_begin_5 : decode cX7_begin 5 = .ok (.aload_n 0, 1) := by decide +kernel
theorem dX7_begin_6 : decode cX7_begin 6 = .ok (.iconst (-1), 1) := by decide +kernel
theorem dX7_begin_7 : decode cX7_begin 7 = .ok (.putfield 9, 3) := by decide +kernel
theorem dX7_begin_10 : decode cX7_begin 10 = .ok (.aload_n 0, 1) := by decide +kernel
theorem dX7_begin_11 : decode cX7_begin 11 = .ok (.iconst 0, 1) := by decide +kernel
theorem dX7_begin_12 : decode cX7_begin 12 = .ok (.putfield 40, 3) := by decide +kernel
theorem dX7_begin_15 : decode cX7_begin 15 = .ok (.aload_n 0, 1) := by decide +kernel
theorem dX7_begin_16 : decode cX7_begin 16 = .ok (.aload_n 1, 1) := by decide +kernel
theorem dX7_begin_17 : decode cX7_begin 17 = .ok (.getfield 43, 3) := by decide +kernel
theorem dX7_begin_20 : decode cX7_begin 20 = .ok (.putfield 49, 3) := by decide +kernel
theorem dX7_begin_23 : decode cX7_begin 23 = .ok (.aload_n 1, 1) := by decide +kernel
theorem dX7_begin_24 : decode cX7_begin 24 = .ok (.getfield 52, 3) := by decide +kernel
theorem dX7_begin_27 : decode cX7_begin 27 = .ok (.iconst 0, 1) := by decide +kernel
theorem dX7_begin_28 : decode cX7_begin 28 = .ok (.aload_n 0, 1) := by decide +kernel
theorem dX7_begin_29 : decode cX7_begin 29 = .ok (.getfield 15, 3) := by decide +kernel
theorem dX7_begin_32 : decode cX7_begin 32 = .ok (.iconst 0, 1) := by decide +kernel
theorem dX7_begin_33 : decode cX7_begin 33 = .ok (.bipush 6, 2) := by decide +kernel
theorem dX7_begin_35 : decode cX7_begin 35 = .ok (.invokestatic 53, 3) := by decide +kernel
theorem dX7_begin_38 : decode cX7_begin 38 = .ok (.aload_n 1, 1) := by decide +kernel
theorem dX7_begin_39 : decode cX7_begin 39 = .ok (.getfield 59, 3) := by decide +kernel
theorem dX7_begin_42 : decode cX7_begin 42 = .ok (.iconst 0, 1) := by decide +kernel
theorem dX7_begin_43 : decode cX7_begin 43 = .ok (.aload_n 0, 1) := by decide +kernel
theorem dX7_begin_44 : decode cX7_begin 44 = .ok (.getfield 19, 3) := by decide +kernel
theorem dX7_begin_47 : decode cX7_begin 47 = .ok (.iconst 0, 1) := by decide +kernel
theorem dX7_begin_48 : decode cX7_begin 48 = .ok (.bipush 6, 2) := by decide +kernel
theorem dX7_begin_50 : decode cX7_begin 50 = .ok (.invokestatic 53, 3) := by decide +kernel
theorem dX7_begin_53 : decode cX7_begin 53 = .ok (.aload_n 0, 1) := by decide +kernel
theorem dX7_begin_54 : decode cX7_begin 54 = .ok (.getfield 22, 3) := by decide +kernel
theorem dX7_begin_57 : decode cX7_begin 57 = .ok (.iconst 0, 1) := by decide +kernel
theorem dX7_begin_58 : decode cX7_begin 58 = .ok (.invokestatic 60, 3) := by decide +kernel
theorem dX7_begin_61 : decode cX7_begin 61 = .ok (.aload_n 0, 1) := by decide +kernel
theorem dX7_begin_62 : decode cX7_begin 62 = .ok (.getfield 25, 3) := by decide +kernel
theorem dX7_begin_65 : decode cX7_begin 65 = .ok (.iconst 0, 1) := by decide +kernel
theorem dX7_begin_66 : decode cX7_begin 66 = .ok (.invokestatic 60, 3) := by decide +kernel
theorem dX7_begin_69 : decode cX7_begin 69 = .ok (.aload_n 0, 1) := by decide +kernel
theorem dX7_begin_70 : decode cX7_begin 70 = .ok (.getfield 28, 3) := by decide +kernel
theorem dX7_begin_73 : decode cX7_begin 73 = .ok (.iconst 0, 1) := by decide +kernel
theorem dX7_begin_74 : decode cX7_begin 74 = .ok (.invokestatic 60, 3) := by decide +kernel
theorem dX7_begin_77 : decode cX7_begin 77 = .ok (.aload_n 0, 1) := by decide +kernel
theorem dX7_begin_78 : decode cX7_begin 78 = .ok (.getfield 31, 3) := by decide +kernel
theorem dX7_begin_81 : decode cX7_begin 81 = .ok (.iconst (-1), 1) := by decide +kernel
theorem dX7_begin_82 : decode cX7_begin 82 = .ok (.invokestatic 60, 3) := by decide +kernel
theorem dX7_begin_85 : decode cX7_begin 85 = .ok (.aload_n 0, 1) := by decide +kernel
theorem dX7_begin_86 : decode cX7_begin 86 = .ok (.getfield 34, 3) := by decide +kernel
theorem dX7_begin_89 : decode cX7_begin 89 = .ok (.iconst 0, 1) := by decide +kernel
theorem dX7_begin_90 : decode cX7_begin 90 = .ok (.invokestatic 60, 3) := by decide +kernel
theorem dX7_begin_93 : decode cX7_begin 93 = .ok (.return_, 1) := by decide +kernel
theorem dX7_copyFrom_0 : decode cX7_copyFrom 0 = .ok (.aload_n 0, 1) := by decide +kernel
theorem dX7_copyFrom_1 : decode cX7_copyFrom 1 = .ok (.aload_n 1, 1) := by decide +kernel
theorem dX7_copyFrom_2 : decode cX7_copyFrom 2 = .ok (.getfield 37, 3) := by decide +kernel
theorem dX7_copyFrom_5 : decode cX7_copyFrom 5 = .ok (.putfield 37, 3) := by decide +kernel
theorem dX7_copyFrom_8 : decode cX7_copyFrom 8 = .ok (.aload_n 0, 1) := by decide +kernel
theorem dX7_copyFrom_9 : decode cX7_copyFrom 9 = .ok (.aload_n 1, 1) := by decide +kernel
theorem dX7_copyFrom_10 : decode cX7_copyFrom 10 = .ok (.getfield 9, 3) := by decide +kernel
theorem dX7_copyFrom_13 : decode cX7_copyFrom 13 = .ok (.putfield 9, 3) := by decide +kernel
theorem dX7_copyFrom_16 : decode cX7_copyFrom 16 = .ok (.aload_n 0, 1) := by decide +kernel
theorem dX7_copyFrom_17 : decode cX7_copyFrom 17 = .ok (.aload_n 1, 1) := by decide +kernel
theorem dX7_copyFrom_18 : decode cX7_copyFrom 18 = .ok (.getfield 40, 3) := by decide +kernel
theorem dX7_copyFrom_21 : decode cX7_copyFrom 21 = .ok (.putfield 40, 3) := by decide +kernel
theorem dX7_copyFrom_24 : decode cX7_copyFrom 24 = .ok (.aload_n 0, 1) := by decide +kernel
theorem dX7_copyFrom_25 : decode cX7_copyFrom 25 = .ok (.aload_n 1, 1) := by decide +kernel
theorem dX7_copyFrom_26 : decode cX7_copyFrom 26 = .ok (.getfield 49, 3) := by decide +kernel
theorem dX7_copyFrom_29 : decode cX7_copyFrom 29 = .ok (.putfield 49, 3) := by decide +kernel
theorem dX7_copyFrom_32 : decode cX7_copyFrom 32 = .ok (.aload_n 1, 1) := by decide +kernel
theorem dX7_copyFrom_33 : decode cX7_copyFrom 33 = .ok (.getfield 15, 3) := by decide +kernel
theorem dX7_copyFrom_36 : decode cX7_copyFrom 36 = .ok (.iconst 0, 1) := by decide +kernel
theorem dX7_copyFrom_37 : decode cX7_copyFrom 37 = .ok (.aload_n 0, 1) := by decide +kernel
theorem dX7_copyFrom_38 : decode cX7_copyFrom 38 = .ok (.getfield 15, 3) := by decide +kernel
theorem dX7_copyFrom_41 : decode cX7_copyFrom 41 = .ok (.iconst 0, 1) := by decide +kernel
theorem dX7_copyFrom_42 : decode cX7_copyFrom 42 = .ok (.bipush 6, 2) := by decide +kernel
theorem dX7_copyFrom_44 : decode cX7_copyFrom 44 = .ok (.invokestatic 53, 3) := by decide +kernel
theorem dX7_copyFrom_47 : decode cX7_copyFrom 47 = .ok (.aload_n 1, 1) := by decide +kernel
theorem dX7_copyFrom_48 : decode cX7_copyFrom 48 = .ok (.getfield 19, 3) := by decide +kernel
theorem dX7_copyFrom_51 : decode cX7_copyFrom 51 = .ok (.iconst 0, 1) := by decide +kernel
theorem dX7_copyFrom_52 : decode cX7_copyFrom 52 = .ok (.aload_n 0, 1) := by decide +kernel
theorem dX7_copyFrom_53 : decode cX7_copyFrom 53 = .ok (.getfield 19, 3) := by decide +kernel
theorem dX7_copyFrom_56 : decode cX7_copyFrom 56 = .ok (.iconst 0, 1) := by decide +kernel
theorem dX7_copyFrom_57 : decode cX7_copyFrom 57 = .ok (.bipush 6, 2) := by decide +kernel
theorem dX7_copyFrom_59 : decode cX7_copyFrom 59 = .ok (.invokestatic 53, 3) := by decide +kernel
theorem dX7_copyFrom_62 : decode cX7_copyFrom 62 = .ok (.aload_n 1, 1) := by decide +kernel
theorem dX7_copyFrom_63 : decode cX7_copyFrom 63 = .ok (.getfield 22, 3) := by decide +kernel
theorem dX7_copyFrom_66 : decode cX7_copyFrom 66 = .ok (.iconst 0, 1) := by decide +kernel
theorem dX7_copyFrom_67 : decode cX7_copyFrom 67 = .ok (.aload_n 0, 1) := by decide +kernel
theorem dX7_copyFrom_68 : decode cX7_copyFrom 68 = .ok (.getfield 22, 3) := by decide +kernel
theorem dX7_copyFrom_71 : decode cX7_copyFrom 71 = .ok (.iconst 0, 1) := by decide +kernel
theorem dX7_copyFrom_72 : decode cX7_copyFrom 72 = .ok (.bipush 6, 2) := by decide +kernel
theorem dX7_copyFrom_74 : decode cX7_copyFrom 74 = .ok (.invokestatic 53, 3) := by decide +kernel
theorem dX7_copyFrom_77 : decode cX7_copyFrom 77 = .ok (.aload_n 1, 1) := by decide +kernel
theorem dX7_copyFrom_78 : decode cX7_copyFrom 78 = .ok (.getfield 25, 3) := by decide +kernel
theorem dX7_copyFrom_81 : decode cX7_copyFrom 81 = .ok (.iconst 0, 1) := by decide +kernel
theorem dX7_copyFrom_82 : decode cX7_copyFrom 82 = .ok (.aload_n 0, 1) := by decide +kernel
theorem dX7_copyFrom_83 : decode cX7_copyFrom 83 = .ok (.getfield 25, 3) := by decide +kernel
theorem dX7_copyFrom_86 : decode cX7_copyFrom 86 = .ok (.iconst 0, 1) := by decide +kernel
theorem dX7_copyFrom_87 : decode cX7_copyFrom 87 = .ok (.bipush 6, 2) := by decide +kernel
theorem dX7_copyFrom_89 : decode cX7_copyFrom 89 = .ok (.invokestatic 53, 3) := by decide +kernel
theorem dX7_copyFrom_92 : decode cX7_copyFrom 92 = .ok (.aload_n 1, 1) := by decide +kernel
theorem dX7_copyFrom_93 : decode cX7_copyFrom 93 = .ok (.getfield 28, 3) := by decide +kernel
theorem dX7_copyFrom_96 : decode cX7_copyFrom 96 = .ok (.iconst 0, 1) := by decide +kernel
theorem dX7_copyFrom_97 : decode cX7_copyFrom 97 = .ok (.aload_n 0, 1) := by decide +kernel
theorem dX7_copyFrom_98 : decode cX7_copyFrom 98 = .ok (.getfield 28, 3) := by decide +kernel
theorem dX7_copyFrom_101 : decode cX7_copyFrom 101 = .ok (.iconst 0, 1) := by decide +kernel
theorem dX7_copyFrom_102 : decode cX7_copyFrom 102 = .ok (.bipush 6, 2) := by decide +kernel
theorem dX7_copyFrom_104 : decode cX7_copyFrom 104 = .ok (.invokestatic 53, 3) := by decide +kernel
theorem dX7_copyFrom_107 : decode cX7_copyFrom 107 = .ok (.aload_n 1, 1) := by decide +kernel
theorem dX7_copyFrom_108 : decode cX7_copyFrom 108 = .ok (.getfield 31, 3) := by decide +kernel
theorem dX7_copyFrom_111 : decode cX7_copyFrom 111 = .ok (.iconst 0, 1) := by decide +kernel
theorem dX7_copyFrom_112 : decode cX7_copyFrom 112 = .ok (.aload_n 0, 1) := by decide +kernel
theorem dX7_copyFrom_113 : decode cX7_copyFrom 113 = .ok (.getfield 31, 3) := by decide +kernel
theorem dX7_copyFrom_116 : decode cX7_copyFrom 116 = .ok (.iconst 0, 1) := by decide +kernel
theorem dX7_copyFrom_117 : decode cX7_copyFrom 117 = .ok (.iconst 5, 1) := by decide +kernel
theorem dX7_copyFrom_118 : decode cX7_copyFrom 118 = .ok (.invokestatic 53, 3) := by decide +kernel
theorem dX7_copyFrom_121 : decode cX7_copyFrom 121 = .ok (.aload_n 1, 1) := by decide +kernel
theorem dX7_copyFrom_122 : decode cX7_copyFrom 122 = .ok (.getfield 34, 3) := by decide +kernel
theorem dX7_copyFrom_125 : decode cX7_copyFrom 125 = .ok (.iconst 0, 1) := by decide +kernel
theorem dX7_copyFrom_126 : decode cX7_copyFrom 126 = .ok (.aload_n 0, 1) := by decide +kernel
theorem dX7_copyFrom_127 : decode cX7_copyFrom 127 = .ok (.getfield 34, 3) := by decide +kernel
theorem dX7_copyFrom_130 : decode cX7_copyFrom 130 = .ok (.iconst 0, 1) := by decide +kernel
theorem dX7_copyFrom_131 : decode cX7_copyFrom 131 = .ok (.bipush 30, 2) := by decide +kernel
theorem dX7_copyFrom_133 : decode cX7_copyFrom 133 = .ok (.invokestatic 53, 3) := by decide +kernel
theorem dX7_copyFrom_136 : decode cX7_copyFrom 136 = .ok (.return_, 1) := by decide +kernel
theorem dX7_askedInAll_0 : decode cX7_askedInAll 0 = .ok (.iconst 0, 1) := by decide +kernel
theorem dX7_askedInAll_1 : decode cX7_askedInAll 1 = .ok (.istore_n 1, 1) := by decide +kernel
theorem dX7_askedInAll_2 : decode cX7_askedInAll 2 = .ok (.iconst 0, 1) := by decide +kernel
theorem dX7_askedInAll_3 : decode cX7_askedInAll 3 = .ok (.istore_n 2, 1) := by decide +kernel
theorem dX7_askedInAll_4 : decode cX7_askedInAll 4 = .ok (.iload_n 2, 1) := by decide +kernel
theorem dX7_askedInAll_5 : decode cX7_askedInAll 5 = .ok (.bipush 6, 2) := by decide +kernel
theorem dX7_askedInAll_7 : decode cX7_askedInAll 7 = .ok (.if_icmp .ge 18, 3) := by decide +kernel
theorem dX7_askedInAll_10 : decode cX7_askedInAll 10 = .ok (.iload_n 1, 1) := by decide +kernel
theorem dX7_askedInAll_11 : decode cX7_askedInAll 11 = .ok (.aload_n 0, 1) := by decide +kernel
theorem dX7_askedInAll_12 : decode cX7_askedInAll 12 = .ok (.getfield 25, 3) := by decide +kernel
theorem dX7_askedInAll_15 : decode cX7_askedInAll 15 = .ok (.iload_n 2, 1) := by decide +kernel
theorem dX7_askedInAll_16 : decode cX7_askedInAll 16 = .ok (.iaload, 1) := by decide +kernel
theorem dX7_askedInAll_17 : decode cX7_askedInAll 17 = .ok (.iadd, 1) := by decide +kernel
theorem dX7_askedInAll_18 : decode cX7_askedInAll 18 = .ok (.istore_n 1, 1) := by decide +kernel
theorem dX7_askedInAll_19 : decode cX7_askedInAll 19 = .ok (.iinc 2 1, 3) := by decide +kernel
theorem dX7_askedInAll_22 : decode cX7_askedInAll 22 = .ok (.goto (-18), 3) := by decide +kernel
theorem dX7_askedInAll_25 : decode cX7_askedInAll 25 = .ok (.iload_n 1, 1) := by decide +kernel
theorem dX7_askedInAll_26 : decode cX7_askedInAll 26 = .ok (.ireturn, 1) := by decide +kernel
theorem dX8_init_0 : decode cX8_init 0 = .ok (.aload_n 0, 1) := by decide +kernel
theorem dX8_init_1 : decode cX8_init 1 = .ok (.invokespecial 3, 3) := by decide +kernel
theorem dX8_init_4 : decode cX8_init 4 = .ok (.aload_n 0, 1) := by decide +kernel
theorem dX8_init_5 : decode cX8_init 5 = .ok (.sipush 400, 3) := by decide +kernel
theorem dX8_init_8 : decode cX8_init 8 = .ok (.newarray .int, 2) := by decide +kernel
theorem dX8_init_10 : decode cX8_init 10 = .ok (.putfield 9, 3) := by decide +kernel
theorem dX8_init_13 : decode cX8_init 13 = .ok (.return_, 1) := by decide +kernel
theorem dX8_add_0 : decode cX8_add 0 = .ok (.bipush 24, 2) := by decide +kernel
theorem dX8_add_2 : decode cX8_add 2 = .ok (.istore_n 2, 1) := by decide +kernel
theorem dX8_add_3 : decode cX8_add 3 = .ok (.iload_n 2, 1) := by decide +kernel
theorem dX8_add_4 : decode cX8_add 4 = .ok (.ifCond .lt 47, 3) := by decide +kernel
theorem dX8_add_7 : decode cX8_add 7 = .ok (.aload_n 0, 1) := by decide +kernel
theorem dX8_add_8 : decode cX8_add 8 = .ok (.getfield 15, 3) := by decide +kernel
theorem dX8_add_11 : decode cX8_add 11 = .ok (.aload_n 0, 1) := by decide +kernel
theorem dX8_add_12 : decode cX8_add 12 = .ok (.getfield 9, 3) := by decide +kernel
theorem dX8_add_15 : decode cX8_add 15 = .ok (.arraylength, 1) := by decide +kernel
theorem dX8_add_16 : decode cX8_add 16 = .ok (.if_icmp .ge 29, 3) := by decide +kernel
theorem dX8_add_19 : decode cX8_add 19 = .ok (.aload_n 0, 1) := by decide +kernel
theorem dX8_add_20 : decode cX8_add 20 = .ok (.getfield 9, 3) := by decide +kernel
theorem dX8_add_23 : decode cX8_add 23 = .ok (.aload_n 0, 1) := by decide +kernel
theorem dX8_add_24 : decode cX8_add 24 = .ok (.getfield 15, 3) := by decide +kernel
theorem dX8_add_27 : decode cX8_add 27 = .ok (.iload_n 1, 1) := by decide +kernel
theorem dX8_add_28 : decode cX8_add 28 = .ok (.iload_n 2, 1) := by decide +kernel
theorem dX8_add_29 : decode cX8_add 29 = .ok (.iushr, 1) := by decide +kernel
theorem dX8_add_30 : decode cX8_add 30 = .ok (.sipush 255, 3) := by decide +kernel
theorem dX8_add_33 : decode cX8_add 33 = .ok (.iand, 1) := by decide +kernel
theorem dX8_add_34 : decode cX8_add 34 = .ok (.iastore, 1) := by decide +kernel
theorem dX8_add_35 : decode cX8_add 35 = .ok (.aload_n 0, 1) := by decide +kernel
theorem dX8_add_36 : decode cX8_add 36 = .ok (.dup, 1) := by decide +kernel
theorem dX8_add_37 : decode cX8_add 37 = .ok (.getfield 15, 3) := by decide +kernel
theorem dX8_add_40 : decode cX8_add 40 = .ok (.iconst 1, 1) := by decide +kernel
theorem dX8_add_41 : decode cX8_add 41 = .ok (.iadd, 1) := by decide +kernel
theorem dX8_add_42 : decode cX8_add 42 = .ok (.putfield 15, 3) := by decide +kernel
theorem dX8_add_45 : decode cX8_add 45 = .ok (.iinc 2 (-8), 3) := by decide +kernel
theorem dX8_add_48 : decode cX8_add 48 = .ok (.goto (-45), 3) := by decide +kernel
theorem dX8_add_51 : decode cX8_add 51 = .ok (.return_, 1) := by decide +kernel
theorem dX8_open_0 : decode cX8_open 0 = .ok (.aload_n 0, 1) := by decide +kernel
theorem dX8_open_1 : decode cX8_open 1 = .ok (.iconst 0, 1) := by decide +kernel
theorem dX8_open_2 : decode cX8_open 2 = .ok (.putfield 19, 3) := by decide +kernel
theorem dX8_open_5 : decode cX8_open 5 = .ok (.aload_n 0, 1) := by decide +kernel
theorem dX8_open_6 : decode cX8_open 6 = .ok (.iconst 0, 1) := by decide +kernel
theorem dX8_open_7 : decode cX8_open 7 = .ok (.putfield 22, 3) := by decide +kernel
theorem dX8_open_10 : decode cX8_open 10 = .ok (.aload_n 0, 1) := by decide +kernel
theorem dX8_open_11 : decode cX8_open 11 = .ok (.invokevirtual 25, 3) := by decide +kernel
theorem dX8_open_14 : decode cX8_open 14 = .ok (.return_, 1) := by decide +kernel
theorem dX8_advance_0 : decode cX8_advance 0 = .ok (.aload_n 0, 1) := by decide +kernel
theorem dX8_advance_1 : decode cX8_advance 1 = .ok (.aload_n 0, 1) := by decide +kernel
theorem dX8_advance_2 : decode cX8_advance 2 = .ok (.getfield 22, 3) := by decide +kernel
theorem dX8_advance_5 : decode cX8_advance 5 = .ok (.putfield 28, 3) := by decide +kernel
theorem dX8_advance_8 : decode cX8_advance 8 = .ok (.aload_n 0, 1) := by decide +kernel
theorem dX8_advance_9 : decode cX8_advance 9 = .ok (.getfield 28, 3) := by decide +kernel
theorem dX8_advance_12 : decode cX8_advance 12 = .ok (.aload_n 0, 1) := by decide +kernel
theorem dX8_advance_13 : decode cX8_advance 13 = .ok (.getfield 15, 3) := by decide +kernel
theorem dX8_advance_16 : decode cX8_advance 16 = .ok (.if_icmp .ge 30, 3) := by decide +kernel
