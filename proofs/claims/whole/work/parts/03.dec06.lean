theorem dX13_laysPlaces_107 : decode cX13_laysPlaces 107 = .ok (.return_, 1) := by decide +kernel
theorem dX13_isRest_0 : decode cX13_isRest 0 = .ok (.iconst 0, 1) := by decide +kernel
theorem dX13_isRest_1 : decode cX13_isRest 1 = .ok (.istore_n 3, 1) := by decide +kernel
theorem dX13_isRest_2 : decode cX13_isRest 2 = .ok (.iload_n 3, 1) := by decide +kernel
theorem dX13_isRest_3 : decode cX13_isRest 3 = .ok (.aload_n 0, 1) := by decide +kernel
theorem dX13_isRest_4 : decode cX13_isRest 4 = .ok (.getfield 9, 3) := by decide +kernel
theorem dX13_isRest_7 : decode cX13_isRest 7 = .ok (.iconst 0, 1) := by decide +kernel
theorem dX13_isRest_8 : decode cX13_isRest 8 = .ok (.iaload, 1) := by decide +kernel
theorem dX13_isRest_9 : decode cX13_isRest 9 = .ok (.if_icmp .ge 61, 3) := by decide +kernel
theorem dX13_isRest_12 : decode cX13_isRest 12 = .ok (.aload_n 0, 1) := by decide +kernel
theorem dX13_isRest_13 : decode cX13_isRest 13 = .ok (.getfield 139, 3) := by decide +kernel
theorem dX13_isRest_16 : decode cX13_isRest 16 = .ok (.bipush 8, 2) := by decide +kernel
theorem dX13_isRest_18 : decode cX13_isRest 18 = .ok (.iload_n 3, 1) := by decide +kernel
theorem dX13_isRest_19 : decode cX13_isRest 19 = .ok (.imul, 1) := by decide +kernel
theorem dX13_isRest_20 : decode cX13_isRest 20 = .ok (.iload_n 2, 1) := by decide +kernel
theorem dX13_isRest_21 : decode cX13_isRest 21 = .ok (.iadd, 1) := by decide +kernel
theorem dX13_isRest_22 : decode cX13_isRest 22 = .ok (.iaload, 1) := by decide +kernel
theorem dX13_isRest_23 : decode cX13_isRest 23 = .ok (.aload_n 0, 1) := by decide +kernel
theorem dX13_isRest_24 : decode cX13_isRest 24 = .ok (.getfield 139, 3) := by decide +kernel
theorem dX13_isRest_27 : decode cX13_isRest 27 = .ok (.bipush 8, 2) := by decide +kernel
theorem dX13_isRest_29 : decode cX13_isRest 29 = .ok (.iload_n 1, 1) := by decide +kernel
theorem dX13_isRest_30 : decode cX13_isRest 30 = .ok (.imul, 1) := by decide +kernel
theorem dX13_isRest_31 : decode cX13_isRest 31 = .ok (.iload_n 2, 1) := by decide +kernel
theorem dX13_isRest_32 : decode cX13_isRest 32 = .ok (.iadd, 1) := by decide +kernel
theorem dX13_isRest_33 : decode cX13_isRest 33 = .ok (.iaload, 1) := by decide +kernel
theorem dX13_isRest_34 : decode cX13_isRest 34 = .ok (.if_icmp .gt 28, 3) := by decide +kernel
theorem dX13_isRest_37 : decode cX13_isRest 37 = .ok (.aload_n 0, 1) := by decide +kernel
theorem dX13_isRest_38 : decode cX13_isRest 38 = .ok (.getfield 142, 3) := by decide +kernel
theorem dX13_isRest_41 : decode cX13_isRest 41 = .ok (.bipush 8, 2) := by decide +kernel
theorem dX13_isRest_43 : decode cX13_isRest 43 = .ok (.iload_n 1, 1) := by decide +kernel
theorem dX13_isRest_44 : decode cX13_isRest 44 = .ok (.imul, 1) := by decide +kernel
theorem dX13_isRest_45 : decode cX13_isRest 45 = .ok (.iload_n 3, 1) := by decide +kernel
theorem dX13_isRest_46 : decode cX13_isRest 46 = .ok (.iadd, 1) := by decide +kernel
theorem dX13_isRest_47 : decode cX13_isRest 47 = .ok (.iaload, 1) := by decide +kernel
theorem dX13_isRest_48 : decode cX13_isRest 48 = .ok (.aload_n 0, 1) := by decide +kernel
theorem dX13_isRest_49 : decode cX13_isRest 49 = .ok (.getfield 142, 3) := by decide +kernel
theorem dX13_isRest_52 : decode cX13_isRest 52 = .ok (.bipush 8, 2) := by decide +kernel
theorem dX13_isRest_54 : decode cX13_isRest 54 = .ok (.iload_n 1, 1) := by decide +kernel
theorem dX13_isRest_55 : decode cX13_isRest 55 = .ok (.imul, 1) := by decide +kernel
theorem dX13_isRest_56 : decode cX13_isRest 56 = .ok (.iload_n 2, 1) := by decide +kernel
theorem dX13_isRest_57 : decode cX13_isRest 57 = .ok (.iadd, 1) := by decide +kernel
theorem dX13_isRest_58 : decode cX13_isRest 58 = .ok (.iaload, 1) := by decide +kernel
theorem dX13_isRest_59 : decode cX13_isRest 59 = .ok (.if_icmp .le 5, 3) := by decide +kernel
theorem dX13_isRest_62 : decode cX13_isRest 62 = .ok (.iconst 0, 1) := by decide +kernel
theorem dX13_isRest_63 : decode cX13_isRest 63 = .ok (.ireturn, 1) := by decide +kernel
theorem dX13_isRest_64 : decode cX13_isRest 64 = .ok (.iinc 3 1, 3) := by decide +kernel
theorem dX13_isRest_67 : decode cX13_isRest 67 = .ok (.goto (-65), 3) := by decide +kernel
theorem dX13_isRest_70 : decode cX13_isRest 70 = .ok (.iconst 1, 1) := by decide +kernel
theorem dX13_isRest_71 : decode cX13_isRest 71 = .ok (.ireturn, 1) := by decide +kernel
theorem dX13_rests_0 : decode cX13_rests 0 = .ok (.aload_n 0, 1) := by decide +kernel
theorem dX13_rests_1 : decode cX13_rests 1 = .ok (.iload_n 1, 1) := by decide +kernel
theorem dX13_rests_2 : decode cX13_rests 2 = .ok (.invokevirtual 364, 3) := by decide +kernel
theorem dX13_rests_5 : decode cX13_rests 5 = .ok (.ifCond .eq 41, 3) := by decide +kernel
theorem dX13_rests_8 : decode cX13_rests 8 = .ok (.aload_n 0, 1) := by decide +kernel
theorem dX13_rests_9 : decode cX13_rests 9 = .ok (.iload_n 2, 1) := by decide +kernel
theorem dX13_rests_10 : decode cX13_rests 10 = .ok (.invokevirtual 364, 3) := by decide +kernel
theorem dX13_rests_13 : decode cX13_rests 13 = .ok (.ifCond .eq 33, 3) := by decide +kernel
theorem dX13_rests_16 : decode cX13_rests 16 = .ok (.iload_n 1, 1) := by decide +kernel
theorem dX13_rests_17 : decode cX13_rests 17 = .ok (.iload_n 2, 1) := by decide +kernel
theorem dX13_rests_18 : decode cX13_rests 18 = .ok (.if_icmp .eq 28, 3) := by decide +kernel
theorem dX13_rests_21 : decode cX13_rests 21 = .ok (.iload_n 3, 1) := by decide +kernel
theorem dX13_rests_22 : decode cX13_rests 22 = .ok (.i2l, 1) := by decide +kernel
theorem dX13_rests_23 : decode cX13_rests 23 = .ok (.lconst 1, 1) := by decide +kernel
theorem dX13_rests_24 : decode cX13_rests 24 = .ok (.ldc2_w 478, 3) := by decide +kernel
theorem dX13_rests_27 : decode cX13_rests 27 = .ok (.invokestatic 161, 3) := by decide +kernel
theorem dX13_rests_30 : decode cX13_rests 30 = .ok (.ifCond .eq 16, 3) := by decide +kernel
theorem dX13_rests_33 : decode cX13_rests 33 = .ok (.iload 4, 2) := by decide +kernel
theorem dX13_rests_35 : decode cX13_rests 35 = .ok (.i2l, 1) := by decide +kernel
theorem dX13_rests_36 : decode cX13_rests 36 = .ok (.lconst 0, 1) := by decide +kernel
theorem dX13_rests_37 : decode cX13_rests 37 = .ok (.ldc2_w 444, 3) := by decide +kernel
theorem dX13_rests_40 : decode cX13_rests 40 = .ok (.invokestatic 161, 3) := by decide +kernel
theorem dX13_rests_43 : decode cX13_rests 43 = .ok (.ifCond .ne 5, 3) := by decide +kernel
theorem dX13_rests_46 : decode cX13_rests 46 = .ok (.iconst (-1), 1) := by decide +kernel
theorem dX13_rests_47 : decode cX13_rests 47 = .ok (.ireturn, 1) := by decide +kernel
theorem dX13_rests_48 : decode cX13_rests 48 = .ok (.aload_n 0, 1) := by decide +kernel
theorem dX13_rests_49 : decode cX13_rests 49 = .ok (.iload_n 1, 1) := by decide +kernel
theorem dX13_rests_50 : decode cX13_rests 50 = .ok (.iload_n 2, 1) := by decide +kernel
theorem dX13_rests_51 : decode cX13_rests 51 = .ok (.iload_n 3, 1) := by decide +kernel
theorem dX13_rests_52 : decode cX13_rests 52 = .ok (.invokevirtual 480, 3) := by decide +kernel
theorem dX13_rests_55 : decode cX13_rests 55 = .ok (.iconst 0, 1) := by decide +kernel
theorem dX13_rests_56 : decode cX13_rests 56 = .ok (.istore 5, 2) := by decide +kernel
theorem dX13_rests_58 : decode cX13_rests 58 = .ok (.bipush (-2), 2) := by decide +kernel
theorem dX13_rests_60 : decode cX13_rests 60 = .ok (.istore 6, 2) := by decide +kernel
theorem dX13_rests_62 : decode cX13_rests 62 = .ok (.bipush (-2), 2) := by decide +kernel
theorem dX13_rests_64 : decode cX13_rests 64 = .ok (.istore 7, 2) := by decide +kernel
theorem dX13_rests_66 : decode cX13_rests 66 = .ok (.iconst 0, 1) := by decide +kernel
theorem dX13_rests_67 : decode cX13_rests 67 = .ok (.istore 8, 2) := by decide +kernel
theorem dX13_rests_69 : decode cX13_rests 69 = .ok (.iload 8, 2) := by decide +kernel
theorem dX13_rests_71 : decode cX13_rests 71 = .ok (.aload_n 0, 1) := by decide +kernel
theorem dX13_rests_72 : decode cX13_rests 72 = .ok (.getfield 9, 3) := by decide +kernel
theorem dX13_rests_75 : decode cX13_rests 75 = .ok (.iconst 0, 1) := by decide +kernel
theorem dX13_rests_76 : decode cX13_rests 76 = .ok (.iaload, 1) := by decide +kernel
theorem dX13_rests_77 : decode cX13_rests 77 = .ok (.if_icmp .ge 71, 3) := by decide +kernel
theorem dX13_rests_80 : decode cX13_rests 80 = .ok (.iconst 0, 1) := by decide +kernel
theorem dX13_rests_81 : decode cX13_rests 81 = .ok (.istore 9, 2) := by decide +kernel
theorem dX13_rests_83 : decode cX13_rests 83 = .ok (.iload 9, 2) := by decide +kernel
theorem dX13_rests_85 : decode cX13_rests 85 = .ok (.aload_n 0, 1) := by decide +kernel
theorem dX13_rests_86 : decode cX13_rests 86 = .ok (.getfield 9, 3) := by decide +kernel
theorem dX13_rests_89 : decode cX13_rests 89 = .ok (.iconst 0, 1) := by decide +kernel
theorem dX13_rests_90 : decode cX13_rests 90 = .ok (.iaload, 1) := by decide +kernel
theorem dX13_rests_91 : decode cX13_rests 91 = .ok (.if_icmp .ge 51, 3) := by decide +kernel
theorem dX13_rests_94 : decode cX13_rests 94 = .ok (.aload_n 0, 1) := by decide +kernel
theorem dX13_rests_95 : decode cX13_rests 95 = .ok (.iload 8, 2) := by decide +kernel
theorem dX13_rests_97 : decode cX13_rests 97 = .ok (.iload 9, 2) := by decide +kernel
theorem dX13_rests_99 : decode cX13_rests 99 = .ok (.invokevirtual 484, 3) := by decide +kernel
theorem dX13_rests_102 : decode cX13_rests 102 = .ok (.ifCond .eq 34, 3) := by decide +kernel
theorem dX13_rests_105 : decode cX13_rests 105 = .ok (.iload 5, 2) := by decide +kernel
theorem dX13_rests_107 : decode cX13_rests 107 = .ok (.ifCond .ne 8, 3) := by decide +kernel
theorem dX13_rests_110 : decode cX13_rests 110 = .ok (.iload 8, 2) := by decide +kernel
theorem dX13_rests_112 : decode cX13_rests 112 = .ok (.goto 5, 3) := by decide +kernel
theorem dX13_rests_115 : decode cX13_rests 115 = .ok (.iload 6, 2) := by decide +kernel
theorem dX13_rests_117 : decode cX13_rests 117 = .ok (.istore 6, 2) := by decide +kernel
theorem dX13_rests_119 : decode cX13_rests 119 = .ok (.iload 5, 2) := by decide +kernel
theorem dX13_rests_121 : decode cX13_rests 121 = .ok (.ifCond .ne 8, 3) := by decide +kernel
theorem dX13_rests_124 : decode cX13_rests 124 = .ok (.iload 9, 2) := by decide +kernel
theorem dX13_rests_126 : decode cX13_rests 126 = .ok (.goto 5, 3) := by decide +kernel
theorem dX13_rests_129 : decode cX13_rests 129 = .ok (.iload 7, 2) := by decide +kernel
theorem dX13_rests_131 : decode cX13_rests 131 = .ok (.istore 7, 2) := by decide +kernel
theorem dX13_rests_133 : decode cX13_rests 133 = .ok (.iinc 5 1, 3) := by decide +kernel
theorem dX13_rests_136 : decode cX13_rests 136 = .ok (.iinc 9 1, 3) := by decide +kernel
theorem dX13_rests_139 : decode cX13_rests 139 = .ok (.goto (-56), 3) := by decide +kernel
theorem dX13_rests_142 : decode cX13_rests 142 = .ok (.iinc 8 1, 3) := by decide +kernel
theorem dX13_rests_145 : decode cX13_rests 145 = .ok (.goto (-76), 3) := by decide +kernel
theorem dX13_rests_148 : decode cX13_rests 148 = .ok (.iload 4, 2) := by decide +kernel
theorem dX13_rests_150 : decode cX13_rests 150 = .ok (.ifCond .ne 8, 3) := by decide +kernel
theorem dX13_rests_153 : decode cX13_rests 153 = .ok (.iload 5, 2) := by decide +kernel
theorem dX13_rests_155 : decode cX13_rests 155 = .ok (.goto 16, 3) := by decide +kernel
theorem dX13_rests_158 : decode cX13_rests 158 = .ok (.iload 4, 2) := by decide +kernel
theorem dX13_rests_160 : decode cX13_rests 160 = .ok (.iconst 1, 1) := by decide +kernel
theorem dX13_rests_161 : decode cX13_rests 161 = .ok (.if_icmp .ne 8, 3) := by decide +kernel
theorem dX13_rests_164 : decode cX13_rests 164 = .ok (.iload 6, 2) := by decide +kernel
theorem dX13_rests_166 : decode cX13_rests 166 = .ok (.goto 5, 3) := by decide +kernel
theorem dX13_rests_169 : decode cX13_rests 169 = .ok (.iload 7, 2) := by decide +kernel
theorem dX13_rests_171 : decode cX13_rests 171 = .ok (.ireturn, 1) := by decide +kernel
theorem dX13_pence_0 : decode cX13_pence 0 = .ok (.aload_n 0, 1) := by decide +kernel
theorem dX13_pence_1 : decode cX13_pence 1 = .ok (.iload_n 2, 1) := by decide +kernel
theorem dX13_pence_2 : decode cX13_pence 2 = .ok (.invokevirtual 364, 3) := by decide +kernel
theorem dX13_pence_5 : decode cX13_pence 5 = .ok (.ifCond .eq 15, 3) := by decide +kernel
theorem dX13_pence_8 : decode cX13_pence 8 = .ok (.iload_n 1, 1) := by decide +kernel
theorem dX13_pence_9 : decode cX13_pence 9 = .ok (.i2l, 1) := by decide +kernel
theorem dX13_pence_10 : decode cX13_pence 10 = .ok (.lconst 0, 1) := by decide +kernel
theorem dX13_pence_11 : decode cX13_pence 11 = .ok (.ldc2_w 487, 3) := by decide +kernel
theorem dX13_pence_14 : decode cX13_pence 14 = .ok (.invokestatic 161, 3) := by decide +kernel
theorem dX13_pence_17 : decode cX13_pence 17 = .ok (.ifCond .ne 5, 3) := by decide +kernel
theorem dX13_pence_20 : decode cX13_pence 20 = .ok (.iconst (-1), 1) := by decide +kernel
theorem dX13_pence_21 : decode cX13_pence 21 = .ok (.ireturn, 1) := by decide +kernel
theorem dX13_pence_22 : decode cX13_pence 22 = .ok (.aload_n 0, 1) := by decide +kernel
theorem dX13_pence_23 : decode cX13_pence 23 = .ok (.invokevirtual 489, 3) := by decide +kernel
theorem dX13_pence_26 : decode cX13_pence 26 = .ok (.istore_n 3, 1) := by decide +kernel
theorem dX13_pence_27 : decode cX13_pence 27 = .ok (.iload_n 3, 1) := by decide +kernel
theorem dX13_pence_28 : decode cX13_pence 28 = .ok (.ifCond .ne 5, 3) := by decide +kernel
theorem dX13_pence_31 : decode cX13_pence 31 = .ok (.iconst 0, 1) := by decide +kernel
theorem dX13_pence_32 : decode cX13_pence 32 = .ok (.ireturn, 1) := by decide +kernel
theorem dX13_pence_33 : decode cX13_pence 33 = .ok (.iload_n 1, 1) := by decide +kernel
theorem dX13_pence_34 : decode cX13_pence 34 = .ok (.istore 4, 2) := by decide +kernel
theorem dX13_pence_36 : decode cX13_pence 36 = .ok (.iconst 0, 1) := by decide +kernel
theorem dX13_pence_37 : decode cX13_pence 37 = .ok (.istore 5, 2) := by decide +kernel
theorem dX13_pence_39 : decode cX13_pence 39 = .ok (.iconst 0, 1) := by decide +kernel
theorem dX13_pence_40 : decode cX13_pence 40 = .ok (.istore 6, 2) := by decide +kernel
theorem dX13_pence_42 : decode cX13_pence 42 = .ok (.iload 6, 2) := by decide +kernel
theorem dX13_pence_44 : decode cX13_pence 44 = .ok (.aload_n 0, 1) := by decide +kernel
theorem dX13_pence_45 : decode cX13_pence 45 = .ok (.getfield 9, 3) := by decide +kernel
theorem dX13_pence_48 : decode cX13_pence 48 = .ok (.iconst 2, 1) := by decide +kernel
theorem dX13_pence_49 : decode cX13_pence 49 = .ok (.iaload, 1) := by decide +kernel
theorem dX13_pence_50 : decode cX13_pence 50 = .ok (.if_icmp .ge 75, 3) := by decide +kernel
theorem dX13_pence_53 : decode cX13_pence 53 = .ok (.iload 4, 2) := by decide +kernel
theorem dX13_pence_55 : decode cX13_pence 55 = .ok (.iload_n 1, 1) := by decide +kernel
theorem dX13_pence_56 : decode cX13_pence 56 = .ok (.aload_n 0, 1) := by decide +kernel
theorem dX13_pence_57 : decode cX13_pence 57 = .ok (.getfield 22, 3) := by decide +kernel
theorem dX13_pence_60 : decode cX13_pence 60 = .ok (.iload 6, 2) := by decide +kernel
theorem dX13_pence_62 : decode cX13_pence 62 = .ok (.iaload, 1) := by decide +kernel
theorem dX13_pence_63 : decode cX13_pence 63 = .ok (.imul, 1) := by decide +kernel
theorem dX13_pence_64 : decode cX13_pence 64 = .ok (.iload_n 3, 1) := by decide +kernel
theorem dX13_pence_65 : decode cX13_pence 65 = .ok (.idiv, 1) := by decide +kernel
theorem dX13_pence_66 : decode cX13_pence 66 = .ok (.isub, 1) := by decide +kernel
theorem dX13_pence_67 : decode cX13_pence 67 = .ok (.istore 4, 2) := by decide +kernel
theorem dX13_pence_69 : decode cX13_pence 69 = .ok (.iload_n 1, 1) := by decide +kernel
theorem dX13_pence_70 : decode cX13_pence 70 = .ok (.aload_n 0, 1) := by decide +kernel
theorem dX13_pence_71 : decode cX13_pence 71 = .ok (.getfield 22, 3) := by decide +kernel
theorem dX13_pence_74 : decode cX13_pence 74 = .ok (.iload 6, 2) := by decide +kernel
theorem dX13_pence_76 : decode cX13_pence 76 = .ok (.iaload, 1) := by decide +kernel
theorem dX13_pence_77 : decode cX13_pence 77 = .ok (.imul, 1) := by decide +kernel
theorem dX13_pence_78 : decode cX13_pence 78 = .ok (.iload_n 3, 1) := by decide +kernel
theorem dX13_pence_79 : decode cX13_pence 79 = .ok (.irem, 1) := by decide +kernel
theorem dX13_pence_80 : decode cX13_pence 80 = .ok (.iload_n 1, 1) := by decide +kernel
theorem dX13_pence_81 : decode cX13_pence 81 = .ok (.aload_n 0, 1) := by decide +kernel
theorem dX13_pence_82 : decode cX13_pence 82 = .ok (.getfield 22, 3) := by decide +kernel
theorem dX13_pence_85 : decode cX13_pence 85 = .ok (.iload_n 2, 1) := by decide +kernel
theorem dX13_pence_86 : decode cX13_pence 86 = .ok (.iaload, 1) := by decide +kernel
theorem dX13_pence_87 : decode cX13_pence 87 = .ok (.imul, 1) := by decide +kernel
theorem dX13_pence_88 : decode cX13_pence 88 = .ok (.iload_n 3, 1) := by decide +kernel
theorem dX13_pence_89 : decode cX13_pence 89 = .ok (.irem, 1) := by decide +kernel
theorem dX13_pence_90 : decode cX13_pence 90 = .ok (.isub, 1) := by decide +kernel
theorem dX13_pence_91 : decode cX13_pence 91 = .ok (.istore 7, 2) := by decide +kernel
theorem dX13_pence_93 : decode cX13_pence 93 = .ok (.iload 5, 2) := by decide +kernel
theorem dX13_pence_95 : decode cX13_pence 95 = .ok (.iload 7, 2) := by decide +kernel
theorem dX13_pence_97 : decode cX13_pence 97 = .ok (.ifCond .gt 14, 3) := by decide +kernel
theorem dX13_pence_100 : decode cX13_pence 100 = .ok (.iload 7, 2) := by decide +kernel
theorem dX13_pence_102 : decode cX13_pence 102 = .ok (.ifCond .ne 13, 3) := by decide +kernel
theorem dX13_pence_105 : decode cX13_pence 105 = .ok (.iload 6, 2) := by decide +kernel
theorem dX13_pence_107 : decode cX13_pence 107 = .ok (.iload_n 2, 1) := by decide +kernel
theorem dX13_pence_108 : decode cX13_pence 108 = .ok (.if_icmp .ge 7, 3) := by decide +kernel
theorem dX13_pence_111 : decode cX13_pence 111 = .ok (.iconst 1, 1) := by decide +kernel
theorem dX13_pence_112 : decode cX13_pence 112 = .ok (.goto 4, 3) := by decide +kernel
theorem dX13_pence_115 : decode cX13_pence 115 = .ok (.iconst 0, 1) := by decide +kernel
theorem dX13_pence_116 : decode cX13_pence 116 = .ok (.iadd, 1) := by decide +kernel
theorem dX13_pence_117 : decode cX13_pence 117 = .ok (.istore 5, 2) := by decide +kernel
theorem dX13_pence_119 : decode cX13_pence 119 = .ok (.iinc 6 1, 3) := by decide +kernel
theorem dX13_pence_122 : decode cX13_pence 122 = .ok (.goto (-80), 3) := by decide +kernel
theorem dX13_pence_125 : decode cX13_pence 125 = .ok (.iload_n 1, 1) := by decide +kernel
theorem dX13_pence_126 : decode cX13_pence 126 = .ok (.aload_n 0, 1) := by decide +kernel
theorem dX13_pence_127 : decode cX13_pence 127 = .ok (.getfield 22, 3) := by decide +kernel
theorem dX13_pence_130 : decode cX13_pence 130 = .ok (.iload_n 2, 1) := by decide +kernel
theorem dX13_pence_131 : decode cX13_pence 131 = .ok (.iaload, 1) := by decide +kernel
theorem dX13_pence_132 : decode cX13_pence 132 = .ok (.imul, 1) := by decide +kernel
theorem dX13_pence_133 : decode cX13_pence 133 = .ok (.iload_n 3, 1) := by decide +kernel
theorem dX13_pence_134 : decode cX13_pence 134 = .ok (.idiv, 1) := by decide +kernel
theorem dX13_pence_135 : decode cX13_pence 135 = .ok (.iload 5, 2) := by decide +kernel
theorem dX13_pence_137 : decode cX13_pence 137 = .ok (.iload 4, 2) := by decide +kernel
theorem dX13_pence_139 : decode cX13_pence 139 = .ok (.if_icmp .ge 7, 3) := by decide +kernel
theorem dX13_pence_142 : decode cX13_pence 142 = .ok (.iconst 1, 1) := by decide +kernel
theorem dX13_pence_143 : decode cX13_pence 143 = .ok (.goto 4, 3) := by decide +kernel
theorem dX13_pence_146 : decode cX13_pence 146 = .ok (.iconst 0, 1) := by decide +kernel
theorem dX13_pence_147 : decode cX13_pence 147 = .ok (.iadd, 1) := by decide +kernel
theorem dX13_pence_148 : decode cX13_pence 148 = .ok (.ireturn, 1) := by decide +kernel
theorem dX13_note_0 : decode cX13_note 0 = .ok (.iload_n 1, 1) := by decide +kernel
theorem dX13_note_1 : decode cX13_note 1 = .ok (.iconst (-1), 1) := by decide +kernel
theorem dX13_note_2 : decode cX13_note 2 = .ok (.if_icmp .ne 13, 3) := by decide +kernel
theorem dX13_note_5 : decode cX13_note 5 = .ok (.aload_n 0, 1) := by decide +kernel
theorem dX13_note_6 : decode cX13_note 6 = .ok (.getfield 9, 3) := by decide +kernel
theorem dX13_note_9 : decode cX13_note 9 = .ok (.bipush 7, 2) := by decide +kernel
theorem dX13_note_11 : decode cX13_note 11 = .ok (.iconst 0, 1) := by decide +kernel
theorem dX13_note_12 : decode cX13_note 12 = .ok (.iastore, 1) := by decide +kernel
theorem dX13_note_13 : decode cX13_note 13 = .ok (.iconst 0, 1) := by decide +kernel
theorem dX13_note_14 : decode cX13_note 14 = .ok (.ireturn, 1) := by decide +kernel
theorem dX13_note_15 : decode cX13_note 15 = .ok (.aload_n 0, 1) := by decide +kernel
theorem dX13_note_16 : decode cX13_note 16 = .ok (.getfield 9, 3) := by decide +kernel
theorem dX13_note_19 : decode cX13_note 19 = .ok (.bipush 7, 2) := by decide +kernel
theorem dX13_note_21 : decode cX13_note 21 = .ok (.iaload, 1) := by decide +kernel
theorem dX13_note_22 : decode cX13_note 22 = .ok (.istore 4, 2) := by decide +kernel
theorem dX13_note_24 : decode cX13_note 24 = .ok (.iload_n 1, 1) := by decide +kernel
theorem dX13_note_25 : decode cX13_note 25 = .ok (.i2l, 1) := by decide +kernel
theorem dX13_note_26 : decode cX13_note 26 = .ok (.lconst 0, 1) := by decide +kernel
theorem dX13_note_27 : decode cX13_note 27 = .ok (.ldc2_w 459, 3) := by decide +kernel
theorem dX13_note_30 : decode cX13_note 30 = .ok (.invokestatic 161, 3) := by decide +kernel
theorem dX13_note_33 : decode cX13_note 33 = .ok (.ifCond .eq 31, 3) := by decide +kernel
theorem dX13_note_36 : decode cX13_note 36 = .ok (.aload_n 0, 1) := by decide +kernel
theorem dX13_note_37 : decode cX13_note 37 = .ok (.iload_n 2, 1) := by decide +kernel
theorem dX13_note_38 : decode cX13_note 38 = .ok (.invokevirtual 368, 3) := by decide +kernel
theorem dX13_note_41 : decode cX13_note 41 = .ok (.ifCond .eq 23, 3) := by decide +kernel
theorem dX13_note_44 : decode cX13_note 44 = .ok (.iload_n 3, 1) := by decide +kernel
theorem dX13_note_45 : decode cX13_note 45 = .ok (.iconst (-1), 1) := by decide +kernel
theorem dX13_note_46 : decode cX13_note 46 = .ok (.if_icmp .eq 11, 3) := by decide +kernel
theorem dX13_note_49 : decode cX13_note 49 = .ok (.aload_n 0, 1) := by decide +kernel
theorem dX13_note_50 : decode cX13_note 50 = .ok (.iload_n 3, 1) := by decide +kernel
theorem dX13_note_51 : decode cX13_note 51 = .ok (.invokevirtual 364, 3) := by decide +kernel
theorem dX13_note_54 : decode cX13_note 54 = .ok (.ifCond .eq 10, 3) := by decide +kernel
theorem dX13_note_57 : decode cX13_note 57 = .ok (.iload 4, 2) := by decide +kernel
theorem dX13_note_59 : decode cX13_note 59 = .ok (.bipush 10, 2) := by decide +kernel
theorem dX13_note_61 : decode cX13_note 61 = .ok (.if_icmp .ne 6, 3) := by decide +kernel
theorem dX13_note_64 : decode cX13_note 64 = .ok (.bipush (-2), 2) := by decide +kernel
theorem dX13_note_66 : decode cX13_note 66 = .ok (.ireturn, 1) := by decide +kernel
theorem dX13_note_67 : decode cX13_note 67 = .ok (.aload_n 0, 1) := by decide +kernel
theorem dX13_note_68 : decode cX13_note 68 = .ok (.getfield 49, 3) := by decide +kernel
theorem dX13_note_71 : decode cX13_note 71 = .ok (.iload 4, 2) := by decide +kernel
theorem dX13_note_73 : decode cX13_note 73 = .ok (.iload_n 1, 1) := by decide +kernel
theorem dX13_note_74 : decode cX13_note 74 = .ok (.iastore, 1) := by decide +kernel
theorem dX13_note_75 : decode cX13_note 75 = .ok (.aload_n 0, 1) := by decide +kernel
theorem dX13_note_76 : decode cX13_note 76 = .ok (.getfield 52, 3) := by decide +kernel
theorem dX13_note_79 : decode cX13_note 79 = .ok (.iload 4, 2) := by decide +kernel
theorem dX13_note_81 : decode cX13_note 81 = .ok (.iload_n 2, 1) := by decide +kernel
theorem dX13_note_82 : decode cX13_note 82 = .ok (.iastore, 1) := by decide +kernel
theorem dX13_note_83 : decode cX13_note 83 = .ok (.aload_n 0, 1) := by decide +kernel
theorem dX13_note_84 : decode cX13_note 84 = .ok (.getfield 55, 3) := by decide +kernel
theorem dX13_note_87 : decode cX13_note 87 = .ok (.iload 4, 2) := by decide +kernel
theorem dX13_note_89 : decode cX13_note 89 = .ok (.iload_n 3, 1) := by decide +kernel
theorem dX13_note_90 : decode cX13_note 90 = .ok (.iastore, 1) := by decide +kernel
theorem dX13_note_91 : decode cX13_note 91 = .ok (.aload_n 0, 1) := by decide +kernel
theorem dX13_note_92 : decode cX13_note 92 = .ok (.getfield 9, 3) := by decide +kernel
theorem dX13_note_95 : decode cX13_note 95 = .ok (.bipush 7, 2) := by decide +kernel
theorem dX13_note_97 : decode cX13_note 97 = .ok (.dup2, 1) := by decide +kernel
theorem dX13_note_98 : decode cX13_note 98 = .ok (.iaload, 1) := by decide +kernel
theorem dX13_note_99 : decode cX13_note 99 = .ok (.iconst 1, 1) := by decide +kernel
theorem dX13_note_100 : decode cX13_note 100 = .ok (.iadd, 1) := by decide +kernel
theorem dX13_note_101 : decode cX13_note 101 = .ok (.iastore, 1) := by decide +kernel
theorem dX13_note_102 : decode cX13_note 102 = .ok (.iload 4, 2) := by decide +kernel
theorem dX13_note_104 : decode cX13_note 104 = .ok (.iconst 1, 1) := by decide +kernel
theorem dX13_note_105 : decode cX13_note 105 = .ok (.iadd, 1) := by decide +kernel
theorem dX13_note_106 : decode cX13_note 106 = .ok (.ireturn, 1) := by decide +kernel
theorem dX13_doNotesFit_0 : decode cX13_doNotesFit 0 = .ok (.aload_n 0, 1) := by decide +kernel
theorem dX13_doNotesFit_1 : decode cX13_doNotesFit 1 = .ok (.invokevirtual 328, 3) := by decide +kernel
theorem dX13_doNotesFit_4 : decode cX13_doNotesFit 4 = .ok (.iconst 0, 1) := by decide +kernel
theorem dX13_doNotesFit_5 : decode cX13_doNotesFit 5 = .ok (.istore_n 1, 1) := by decide +kernel
theorem dX13_doNotesFit_6 : decode cX13_doNotesFit 6 = .ok (.iload_n 1, 1) := by decide +kernel
theorem dX13_doNotesFit_7 : decode cX13_doNotesFit 7 = .ok (.bipush 60, 2) := by decide +kernel
theorem dX13_doNotesFit_9 : decode cX13_doNotesFit 9 = .ok (.if_icmp .gt 43, 3) := by decide +kernel
theorem dX13_doNotesFit_12 : decode cX13_doNotesFit 12 = .ok (.aload_n 0, 1) := by decide +kernel
theorem dX13_doNotesFit_13 : decode cX13_doNotesFit 13 = .ok (.invokevirtual 409, 3) := by decide +kernel
theorem dX13_doNotesFit_16 : decode cX13_doNotesFit 16 = .ok (.pop, 1) := by decide +kernel
theorem dX13_doNotesFit_17 : decode cX13_doNotesFit 17 = .ok (.iconst 0, 1) := by decide +kernel
theorem dX13_doNotesFit_18 : decode cX13_doNotesFit 18 = .ok (.istore_n 2, 1) := by decide +kernel
theorem dX13_doNotesFit_19 : decode cX13_doNotesFit 19 = .ok (.iload_n 2, 1) := by decide +kernel
theorem dX13_doNotesFit_20 : decode cX13_doNotesFit 20 = .ok (.iconst 5, 1) := by decide +kernel
theorem dX13_doNotesFit_21 : decode cX13_doNotesFit 21 = .ok (.if_icmp .ge 25, 3) := by decide +kernel
theorem dX13_doNotesFit_24 : decode cX13_doNotesFit 24 = .ok (.aload_n 0, 1) := by decide +kernel
theorem dX13_doNotesFit_25 : decode cX13_doNotesFit 25 = .ok (.getfield 145, 3) := by decide +kernel
theorem dX13_doNotesFit_28 : decode cX13_doNotesFit 28 = .ok (.iconst 5, 1) := by decide +kernel
theorem dX13_doNotesFit_29 : decode cX13_doNotesFit 29 = .ok (.iload_n 1, 1) := by decide +kernel
theorem dX13_doNotesFit_30 : decode cX13_doNotesFit 30 = .ok (.imul, 1) := by decide +kernel
theorem dX13_doNotesFit_31 : decode cX13_doNotesFit 31 = .ok (.iload_n 2, 1) := by decide +kernel
theorem dX13_doNotesFit_32 : decode cX13_doNotesFit 32 = .ok (.iadd, 1) := by decide +kernel
theorem dX13_doNotesFit_33 : decode cX13_doNotesFit 33 = .ok (.aload_n 0, 1) := by decide +kernel
theorem dX13_doNotesFit_34 : decode cX13_doNotesFit 34 = .ok (.getfield 127, 3) := by decide +kernel
theorem dX13_doNotesFit_37 : decode cX13_doNotesFit 37 = .ok (.iload_n 2, 1) := by decide +kernel
theorem dX13_doNotesFit_38 : decode cX13_doNotesFit 38 = .ok (.iaload, 1) := by decide +kernel
theorem dX13_doNotesFit_39 : decode cX13_doNotesFit 39 = .ok (.iastore, 1) := by decide +kernel
theorem dX13_doNotesFit_40 : decode cX13_doNotesFit 40 = .ok (.iinc 2 1, 3) := by decide +kernel
theorem dX13_doNotesFit_43 : decode cX13_doNotesFit 43 = .ok (.goto (-24), 3) := by decide +kernel
theorem dX13_doNotesFit_46 : decode cX13_doNotesFit 46 = .ok (.iinc 1 1, 3) := by decide +kernel
theorem dX13_doNotesFit_49 : decode cX13_doNotesFit 49 = .ok (.goto (-43), 3) := by decide +kernel
theorem dX13_doNotesFit_52 : decode cX13_doNotesFit 52 = .ok (.aload_n 0, 1) := by decide +kernel
theorem dX13_doNotesFit_53 : decode cX13_doNotesFit 53 = .ok (.invokevirtual 456, 3) := by decide +kernel
theorem dX13_doNotesFit_56 : decode cX13_doNotesFit 56 = .ok (.iconst 0, 1) := by decide +kernel
theorem dX13_doNotesFit_57 : decode cX13_doNotesFit 57 = .ok (.istore_n 1, 1) := by decide +kernel
theorem dX13_doNotesFit_58 : decode cX13_doNotesFit 58 = .ok (.iload_n 1, 1) := by decide +kernel
theorem dX13_doNotesFit_59 : decode cX13_doNotesFit 59 = .ok (.aload_n 0, 1) := by decide +kernel
theorem dX13_doNotesFit_60 : decode cX13_doNotesFit 60 = .ok (.getfield 9, 3) := by decide +kernel
theorem dX13_doNotesFit_63 : decode cX13_doNotesFit 63 = .ok (.bipush 7, 2) := by decide +kernel
theorem dX13_doNotesFit_65 : decode cX13_doNotesFit 65 = .ok (.iaload, 1) := by decide +kernel
theorem dX13_doNotesFit_66 : decode cX13_doNotesFit 66 = .ok (.if_icmp .ge 40, 3) := by decide +kernel
theorem dX13_doNotesFit_69 : decode cX13_doNotesFit 69 = .ok (.aload_n 0, 1) := by decide +kernel
theorem dX13_doNotesFit_70 : decode cX13_doNotesFit 70 = .ok (.getfield 145, 3) := by decide +kernel
theorem dX13_doNotesFit_73 : decode cX13_doNotesFit 73 = .ok (.iconst 5, 1) := by decide +kernel
theorem dX13_doNotesFit_74 : decode cX13_doNotesFit 74 = .ok (.aload_n 0, 1) := by decide +kernel
theorem dX13_doNotesFit_75 : decode cX13_doNotesFit 75 = .ok (.getfield 49, 3) := by decide +kernel
theorem dX13_doNotesFit_78 : decode cX13_doNotesFit 78 = .ok (.iload_n 1, 1) := by decide +kernel
theorem dX13_doNotesFit_79 : decode cX13_doNotesFit 79 = .ok (.iaload, 1) := by decide +kernel
theorem dX13_doNotesFit_80 : decode cX13_doNotesFit 80 = .ok (.imul, 1) := by decide +kernel
theorem dX13_doNotesFit_81 : decode cX13_doNotesFit 81 = .ok (.aload_n 0, 1) := by decide +kernel
theorem dX13_doNotesFit_82 : decode cX13_doNotesFit 82 = .ok (.getfield 52, 3) := by decide +kernel
theorem dX13_doNotesFit_85 : decode cX13_doNotesFit 85 = .ok (.iload_n 1, 1) := by decide +kernel
theorem dX13_doNotesFit_86 : decode cX13_doNotesFit 86 = .ok (.iaload, 1) := by decide +kernel
theorem dX13_doNotesFit_87 : decode cX13_doNotesFit 87 = .ok (.iadd, 1) := by decide +kernel
theorem dX13_doNotesFit_88 : decode cX13_doNotesFit 88 = .ok (.iaload, 1) := by decide +kernel
theorem dX13_doNotesFit_89 : decode cX13_doNotesFit 89 = .ok (.aload_n 0, 1) := by decide +kernel
theorem dX13_doNotesFit_90 : decode cX13_doNotesFit 90 = .ok (.getfield 55, 3) := by decide +kernel
theorem dX13_doNotesFit_93 : decode cX13_doNotesFit 93 = .ok (.iload_n 1, 1) := by decide +kernel
theorem dX13_doNotesFit_94 : decode cX13_doNotesFit 94 = .ok (.iaload, 1) := by decide +kernel
theorem dX13_doNotesFit_95 : decode cX13_doNotesFit 95 = .ok (.if_icmp .eq 5, 3) := by decide +kernel
theorem dX13_doNotesFit_98 : decode cX13_doNotesFit 98 = .ok (.iconst 0, 1) := by decide +kernel
theorem dX13_doNotesFit_99 : decode cX13_doNotesFit 99 = .ok (.ireturn, 1) := by decide +kernel
theorem dX13_doNotesFit_100 : decode cX13_doNotesFit 100 = .ok (.iinc 1 1, 3) := by decide +kernel
theorem dX13_doNotesFit_103 : decode cX13_doNotesFit 103 = .ok (.goto (-45), 3) := by decide +kernel
theorem dX13_doNotesFit_106 : decode cX13_doNotesFit 106 = .ok (.iconst 1, 1) := by decide +kernel
theorem dX13_doNotesFit_107 : decode cX13_doNotesFit 107 = .ok (.ireturn, 1) := by decide +kernel
theorem dX13_couldRule_0 : decode cX13_couldRule 0 = .ok (.aload_n 0, 1) := by decide +kernel
theorem dX13_couldRule_1 : decode cX13_couldRule 1 = .ok (.getfield 9, 3) := by decide +kernel
theorem dX13_couldRule_4 : decode cX13_couldRule 4 = .ok (.bipush 9, 2) := by decide +kernel
theorem dX13_couldRule_6 : decode cX13_couldRule 6 = .ok (.iload_n 1, 1) := by decide +kernel
theorem dX13_couldRule_7 : decode cX13_couldRule 7 = .ok (.iastore, 1) := by decide +kernel
theorem dX13_couldRule_8 : decode cX13_couldRule 8 = .ok (.aload_n 0, 1) := by decide +kernel
theorem dX13_couldRule_9 : decode cX13_couldRule 9 = .ok (.invokevirtual 492, 3) := by decide +kernel
theorem dX13_couldRule_12 : decode cX13_couldRule 12 = .ok (.ireturn, 1) := by decide +kernel
theorem dX13_ruled_0 : decode cX13_ruled 0 = .ok (.aload_n 0, 1) := by decide +kernel
theorem dX13_ruled_1 : decode cX13_ruled 1 = .ok (.invokevirtual 430, 3) := by decide +kernel
theorem dX13_ruled_4 : decode cX13_ruled 4 = .ok (.ifCond .eq 13, 3) := by decide +kernel
theorem dX13_ruled_7 : decode cX13_ruled 7 = .ok (.iload_n 1, 1) := by decide +kernel
theorem dX13_ruled_8 : decode cX13_ruled 8 = .ok (.i2l, 1) := by decide +kernel
theorem dX13_ruled_9 : decode cX13_ruled 9 = .ok (.lconst 0, 1) := by decide +kernel
theorem dX13_ruled_10 : decode cX13_ruled 10 = .ok (.lconst 1, 1) := by decide +kernel
theorem dX13_ruled_11 : decode cX13_ruled 11 = .ok (.invokestatic 161, 3) := by decide +kernel
theorem dX13_ruled_14 : decode cX13_ruled 14 = .ok (.ifCond .ne 6, 3) := by decide +kernel
theorem dX13_ruled_17 : decode cX13_ruled 17 = .ok (.bipush (-3), 2) := by decide +kernel
theorem dX13_ruled_19 : decode cX13_ruled 19 = .ok (.ireturn, 1) := by decide +kernel
theorem dX13_ruled_20 : decode cX13_ruled 20 = .ok (.aload_n 0, 1) := by decide +kernel
theorem dX13_ruled_21 : decode cX13_ruled 21 = .ok (.invokevirtual 450, 3) := by decide +kernel
theorem dX13_ruled_24 : decode cX13_ruled 24 = .ok (.iconst 0, 1) := by decide +kernel
theorem dX13_ruled_25 : decode cX13_ruled 25 = .ok (.istore_n 2, 1) := by decide +kernel
theorem dX13_ruled_26 : decode cX13_ruled 26 = .ok (.bipush (-2), 2) := by decide +kernel
theorem dX13_ruled_28 : decode cX13_ruled 28 = .ok (.istore_n 3, 1) := by decide +kernel
theorem dX13_ruled_29 : decode cX13_ruled 29 = .ok (.iconst (-1), 1) := by decide +kernel
theorem dX13_ruled_30 : decode cX13_ruled 30 = .ok (.istore 4, 2) := by decide +kernel
theorem dX13_ruled_32 : decode cX13_ruled 32 = .ok (.iload 4, 2) := by decide +kernel
theorem dX13_ruled_34 : decode cX13_ruled 34 = .ok (.aload_n 0, 1) := by decide +kernel
theorem dX13_ruled_35 : decode cX13_ruled 35 = .ok (.getfield 344, 3) := by decide +kernel
theorem dX13_ruled_38 : decode cX13_ruled 38 = .ok (.if_icmp .ge 32, 3) := by decide +kernel
theorem dX13_ruled_41 : decode cX13_ruled 41 = .ok (.aload_n 0, 1) := by decide +kernel
theorem dX13_ruled_42 : decode cX13_ruled 42 = .ok (.iload 4, 2) := by decide +kernel
theorem dX13_ruled_44 : decode cX13_ruled 44 = .ok (.invokevirtual 495, 3) := by decide +kernel
theorem dX13_ruled_47 : decode cX13_ruled 47 = .ok (.ifCond .eq 17, 3) := by decide +kernel
theorem dX13_ruled_50 : decode cX13_ruled 50 = .ok (.iload_n 2, 1) := by decide +kernel
theorem dX13_ruled_51 : decode cX13_ruled 51 = .ok (.ifCond .ne 8, 3) := by decide +kernel
theorem dX13_ruled_54 : decode cX13_ruled 54 = .ok (.iload 4, 2) := by decide +kernel
theorem dX13_ruled_56 : decode cX13_ruled 56 = .ok (.goto 4, 3) := by decide +kernel
theorem dX13_ruled_59 : decode cX13_ruled 59 = .ok (.iload_n 3, 1) := by decide +kernel
theorem dX13_ruled_60 : decode cX13_ruled 60 = .ok (.istore_n 3, 1) := by decide +kernel
theorem dX13_ruled_61 : decode cX13_ruled 61 = .ok (.iinc 2 1, 3) := by decide +kernel
theorem dX13_ruled_64 : decode cX13_ruled 64 = .ok (.iinc 4 1, 3) := by decide +kernel
theorem dX13_ruled_67 : decode cX13_ruled 67 = .ok (.goto (-35), 3) := by decide +kernel
theorem dX13_ruled_70 : decode cX13_ruled 70 = .ok (.iload_n 1, 1) := by decide +kernel
theorem dX13_ruled_71 : decode cX13_ruled 71 = .ok (.ifCond .ne 7, 3) := by decide +kernel
theorem dX13_ruled_74 : decode cX13_ruled 74 = .ok (.iload_n 2, 1) := by decide +kernel
theorem dX13_ruled_75 : decode cX13_ruled 75 = .ok (.goto 4, 3) := by decide +kernel
theorem dX13_ruled_78 : decode cX13_ruled 78 = .ok (.iload_n 3, 1) := by decide +kernel
theorem dX13_ruled_79 : decode cX13_ruled 79 = .ok (.ireturn, 1) := by decide +kernel
theorem dX13_liars_0 : decode cX13_liars 0 = .ok (.aload_n 0, 1) := by decide +kernel
theorem dX13_liars_1 : decode cX13_liars 1 = .ok (.invokevirtual 430, 3) := by decide +kernel
theorem dX13_liars_4 : decode cX13_liars 4 = .ok (.ifCond .eq 15, 3) := by decide +kernel
theorem dX13_liars_7 : decode cX13_liars 7 = .ok (.iload_n 1, 1) := by decide +kernel
theorem dX13_liars_8 : decode cX13_liars 8 = .ok (.i2l, 1) := by decide +kernel
theorem dX13_liars_9 : decode cX13_liars 9 = .ok (.lconst 0, 1) := by decide +kernel
theorem dX13_liars_10 : decode cX13_liars 10 = .ok (.ldc2_w 444, 3) := by decide +kernel
theorem dX13_liars_13 : decode cX13_liars 13 = .ok (.invokestatic 161, 3) := by decide +kernel
theorem dX13_liars_16 : decode cX13_liars 16 = .ok (.ifCond .ne 6, 3) := by decide +kernel
theorem dX13_liars_19 : decode cX13_liars 19 = .ok (.bipush (-3), 2) := by decide +kernel
theorem dX13_liars_21 : decode cX13_liars 21 = .ok (.ireturn, 1) := by decide +kernel
theorem dX13_liars_22 : decode cX13_liars 22 = .ok (.iconst 0, 1) := by decide +kernel
theorem dX13_liars_23 : decode cX13_liars 23 = .ok (.istore_n 2, 1) := by decide +kernel
theorem dX13_liars_24 : decode cX13_liars 24 = .ok (.bipush (-2), 2) := by decide +kernel
theorem dX13_liars_26 : decode cX13_liars 26 = .ok (.istore_n 3, 1) := by decide +kernel
theorem dX13_liars_27 : decode cX13_liars 27 = .ok (.iconst 0, 1) := by decide +kernel
theorem dX13_liars_28 : decode cX13_liars 28 = .ok (.istore 4, 2) := by decide +kernel
theorem dX13_liars_30 : decode cX13_liars 30 = .ok (.aload_n 0, 1) := by decide +kernel
theorem dX13_liars_31 : decode cX13_liars 31 = .ok (.invokevirtual 450, 3) := by decide +kernel
theorem dX13_liars_34 : decode cX13_liars 34 = .ok (.iconst 0, 1) := by decide +kernel
theorem dX13_liars_35 : decode cX13_liars 35 = .ok (.istore 5, 2) := by decide +kernel
theorem dX13_liars_37 : decode cX13_liars 37 = .ok (.iload 5, 2) := by decide +kernel
theorem dX13_liars_39 : decode cX13_liars 39 = .ok (.iconst 1, 1) := by decide +kernel
theorem dX13_liars_40 : decode cX13_liars 40 = .ok (.aload_n 0, 1) := by decide +kernel
theorem dX13_liars_41 : decode cX13_liars 41 = .ok (.getfield 9, 3) := by decide +kernel
theorem dX13_liars_44 : decode cX13_liars 44 = .ok (.iconst 2, 1) := by decide +kernel
theorem dX13_liars_45 : decode cX13_liars 45 = .ok (.iaload, 1) := by decide +kernel
theorem dX13_liars_46 : decode cX13_liars 46 = .ok (.ishl, 1) := by decide +kernel
theorem dX13_liars_47 : decode cX13_liars 47 = .ok (.if_icmp .ge 76, 3) := by decide +kernel
theorem dX13_liars_50 : decode cX13_liars 50 = .ok (.iconst 0, 1) := by decide +kernel
theorem dX13_liars_51 : decode cX13_liars 51 = .ok (.istore 6, 2) := by decide +kernel
theorem dX13_liars_53 : decode cX13_liars 53 = .ok (.iload 6, 2) := by decide +kernel
theorem dX13_liars_55 : decode cX13_liars 55 = .ok (.bipush 6, 2) := by decide +kernel
theorem dX13_liars_57 : decode cX13_liars 57 = .ok (.if_icmp .ge 23, 3) := by decide +kernel
theorem dX13_liars_60 : decode cX13_liars 60 = .ok (.aload_n 0, 1) := by decide +kernel
theorem dX13_liars_61 : decode cX13_liars 61 = .ok (.getfield 37, 3) := by decide +kernel
theorem dX13_liars_64 : decode cX13_liars 64 = .ok (.iload 6, 2) := by decide +kernel
theorem dX13_liars_66 : decode cX13_liars 66 = .ok (.iload 5, 2) := by decide +kernel
theorem dX13_liars_68 : decode cX13_liars 68 = .ok (.iload 6, 2) := by decide +kernel
theorem dX13_liars_70 : decode cX13_liars 70 = .ok (.ishr, 1) := by decide +kernel
theorem dX13_liars_71 : decode cX13_liars 71 = .ok (.iconst 1, 1) := by decide +kernel
theorem dX13_liars_72 : decode cX13_liars 72 = .ok (.iand, 1) := by decide +kernel
theorem dX13_liars_73 : decode cX13_liars 73 = .ok (.iastore, 1) := by decide +kernel
theorem dX13_liars_74 : decode cX13_liars 74 = .ok (.iinc 6 1, 3) := by decide +kernel
theorem dX13_liars_77 : decode cX13_liars 77 = .ok (.goto (-24), 3) := by decide +kernel
theorem dX13_liars_80 : decode cX13_liars 80 = .ok (.aload_n 0, 1) := by decide +kernel
theorem dX13_liars_81 : decode cX13_liars 81 = .ok (.invokevirtual 492, 3) := by decide +kernel
theorem dX13_liars_84 : decode cX13_liars 84 = .ok (.ifCond .eq 33, 3) := by decide +kernel
theorem dX13_liars_87 : decode cX13_liars 87 = .ok (.iload_n 2, 1) := by decide +kernel
theorem dX13_liars_88 : decode cX13_liars 88 = .ok (.ifCond .ne 8, 3) := by decide +kernel
theorem dX13_liars_91 : decode cX13_liars 91 = .ok (.iload 5, 2) := by decide +kernel
theorem dX13_liars_93 : decode cX13_liars 93 = .ok (.goto 4, 3) := by decide +kernel
theorem dX13_liars_96 : decode cX13_liars 96 = .ok (.iload_n 3, 1) := by decide +kernel
theorem dX13_liars_97 : decode cX13_liars 97 = .ok (.istore_n 3, 1) := by decide +kernel
theorem dX13_liars_98 : decode cX13_liars 98 = .ok (.iload_n 2, 1) := by decide +kernel
theorem dX13_liars_99 : decode cX13_liars 99 = .ok (.ifCond .ne 8, 3) := by decide +kernel
theorem dX13_liars_102 : decode cX13_liars 102 = .ok (.iload 5, 2) := by decide +kernel
theorem dX13_liars_104 : decode cX13_liars 104 = .ok (.goto 8, 3) := by decide +kernel
theorem dX13_liars_107 : decode cX13_liars 107 = .ok (.iload 4, 2) := by decide +kernel
theorem dX13_liars_109 : decode cX13_liars 109 = .ok (.iload 5, 2) := by decide +kernel
theorem dX13_liars_111 : decode cX13_liars 111 = .ok (.iand, 1) := by decide +kernel
theorem dX13_liars_112 : decode cX13_liars 112 = .ok (.istore 4, 2) := by decide +kernel
theorem dX13_liars_114 : decode cX13_liars 114 = .ok (.iinc 2 1, 3) := by decide +kernel
theorem dX13_liars_117 : decode cX13_liars 117 = .ok (.iinc 5 1, 3) := by decide +kernel
theorem dX13_liars_120 : decode cX13_liars 120 = .ok (.goto (-83), 3) := by decide +kernel
theorem dX13_liars_123 : decode cX13_liars 123 = .ok (.iload_n 1, 1) := by decide +kernel
theorem dX13_liars_124 : decode cX13_liars 124 = .ok (.ifCond .ne 7, 3) := by decide +kernel
theorem dX13_liars_127 : decode cX13_liars 127 = .ok (.iload_n 2, 1) := by decide +kernel
theorem dX13_liars_128 : decode cX13_liars 128 = .ok (.goto 14, 3) := by decide +kernel
theorem dX13_liars_131 : decode cX13_liars 131 = .ok (.iload_n 1, 1) := by decide +kernel
theorem dX13_liars_132 : decode cX13_liars 132 = .ok (.iconst 1, 1) := by decide +kernel
theorem dX13_liars_133 : decode cX13_liars 133 = .ok (.if_icmp .ne 7, 3) := by decide +kernel
theorem dX13_liars_136 : decode cX13_liars 136 = .ok (.iload_n 3, 1) := by decide +kernel
theorem dX13_liars_137 : decode cX13_liars 137 = .ok (.goto 5, 3) := by decide +kernel
theorem dX13_liars_140 : decode cX13_liars 140 = .ok (.iload 4, 2) := by decide +kernel
theorem dX13_liars_142 : decode cX13_liars 142 = .ok (.ireturn, 1) := by decide +kernel
theorem dX13_mostAlike_0 : decode cX13_mostAlike 0 = .ok (.iconst 0, 1) := by decide +kernel
theorem dX13_mostAlike_1 : decode cX13_mostAlike 1 = .ok (.istore_n 3, 1) := by decide +kernel
theorem dX13_mostAlike_2 : decode cX13_mostAlike 2 = .ok (.iconst 0, 1) := by decide +kernel
theorem dX13_mostAlike_3 : decode cX13_mostAlike 3 = .ok (.istore 4, 2) := by decide +kernel
theorem dX13_mostAlike_5 : decode cX13_mostAlike 5 = .ok (.iload 4, 2) := by decide +kernel
theorem dX13_mostAlike_7 : decode cX13_mostAlike 7 = .ok (.iload_n 2, 1) := by decide +kernel
theorem dX13_mostAlike_8 : decode cX13_mostAlike 8 = .ok (.if_icmp .ge 75, 3) := by decide +kernel
theorem dX13_mostAlike_11 : decode cX13_mostAlike 11 = .ok (.iconst 0, 1) := by decide +kernel
theorem dX13_mostAlike_12 : decode cX13_mostAlike 12 = .ok (.istore 5, 2) := by decide +kernel
theorem dX13_mostAlike_14 : decode cX13_mostAlike 14 = .ok (.iconst 0, 1) := by decide +kernel
theorem dX13_mostAlike_15 : decode cX13_mostAlike 15 = .ok (.istore 6, 2) := by decide +kernel
theorem dX13_mostAlike_17 : decode cX13_mostAlike 17 = .ok (.iload 6, 2) := by decide +kernel
theorem dX13_mostAlike_19 : decode cX13_mostAlike 19 = .ok (.iload_n 2, 1) := by decide +kernel
theorem dX13_mostAlike_20 : decode cX13_mostAlike 20 = .ok (.if_icmp .ge 44, 3) := by decide +kernel
theorem dX13_mostAlike_23 : decode cX13_mostAlike 23 = .ok (.iload 5, 2) := by decide +kernel
theorem dX13_mostAlike_25 : decode cX13_mostAlike 25 = .ok (.aload_n 0, 1) := by decide +kernel
theorem dX13_mostAlike_26 : decode cX13_mostAlike 26 = .ok (.getfield 148, 3) := by decide +kernel
theorem dX13_mostAlike_29 : decode cX13_mostAlike 29 = .ok (.iconst 5, 1) := by decide +kernel
theorem dX13_mostAlike_30 : decode cX13_mostAlike 30 = .ok (.iload 6, 2) := by decide +kernel
theorem dX13_mostAlike_32 : decode cX13_mostAlike 32 = .ok (.imul, 1) := by decide +kernel
theorem dX13_mostAlike_33 : decode cX13_mostAlike 33 = .ok (.iload_n 1, 1) := by decide +kernel
theorem dX13_mostAlike_34 : decode cX13_mostAlike 34 = .ok (.iadd, 1) := by decide +kernel
theorem dX13_mostAlike_35 : decode cX13_mostAlike 35 = .ok (.iaload, 1) := by decide +kernel
theorem dX13_mostAlike_36 : decode cX13_mostAlike 36 = .ok (.aload_n 0, 1) := by decide +kernel
theorem dX13_mostAlike_37 : decode cX13_mostAlike 37 = .ok (.getfield 148, 3) := by decide +kernel
theorem dX13_mostAlike_40 : decode cX13_mostAlike 40 = .ok (.iconst 5, 1) := by decide +kernel
theorem dX13_mostAlike_41 : decode cX13_mostAlike 41 = .ok (.iload 4, 2) := by decide +kernel
theorem dX13_mostAlike_43 : decode cX13_mostAlike 43 = .ok (.imul, 1) := by decide +kernel
theorem dX13_mostAlike_44 : decode cX13_mostAlike 44 = .ok (.iload_n 1, 1) := by decide +kernel
theorem dX13_mostAlike_45 : decode cX13_mostAlike 45 = .ok (.iadd, 1) := by decide +kernel
theorem dX13_mostAlike_46 : decode cX13_mostAlike 46 = .ok (.iaload, 1) := by decide +kernel
theorem dX13_mostAlike_47 : decode cX13_mostAlike 47 = .ok (.if_icmp .ne 7, 3) := by decide +kernel
theorem dX13_mostAlike_50 : decode cX13_mostAlike 50 = .ok (.iconst 1, 1) := by decide +kernel
theorem dX13_mostAlike_51 : decode cX13_mostAlike 51 = .ok (.goto 4, 3) := by decide +kernel
theorem dX13_mostAlike_54 : decode cX13_mostAlike 54 = .ok (.iconst 0, 1) := by decide +kernel
theorem dX13_mostAlike_55 : decode cX13_mostAlike 55 = .ok (.iadd, 1) := by decide +kernel
theorem dX13_mostAlike_56 : decode cX13_mostAlike 56 = .ok (.istore 5, 2) := by decide +kernel
theorem dX13_mostAlike_58 : decode cX13_mostAlike 58 = .ok (.iinc 6 1, 3) := by decide +kernel
theorem dX13_mostAlike_61 : decode cX13_mostAlike 61 = .ok (.goto (-44), 3) := by decide +kernel
theorem dX13_mostAlike_64 : decode cX13_mostAlike 64 = .ok (.iload 5, 2) := by decide +kernel
theorem dX13_mostAlike_66 : decode cX13_mostAlike 66 = .ok (.iload_n 3, 1) := by decide +kernel
theorem dX13_mostAlike_67 : decode cX13_mostAlike 67 = .ok (.if_icmp .le 8, 3) := by decide +kernel
theorem dX13_mostAlike_70 : decode cX13_mostAlike 70 = .ok (.iload 5, 2) := by decide +kernel
theorem dX13_mostAlike_72 : decode cX13_mostAlike 72 = .ok (.goto 4, 3) := by decide +kernel
theorem dX13_mostAlike_75 : decode cX13_mostAlike 75 = .ok (.iload_n 3, 1) := by decide +kernel
theorem dX13_mostAlike_76 : decode cX13_mostAlike 76 = .ok (.istore_n 3, 1) := by decide +kernel
theorem dX13_mostAlike_77 : decode cX13_mostAlike 77 = .ok (.iinc 4 1, 3) := by decide +kernel
theorem dX13_mostAlike_80 : decode cX13_mostAlike 80 = .ok (.goto (-75), 3) := by decide +kernel
theorem dX13_mostAlike_83 : decode cX13_mostAlike 83 = .ok (.iload_n 3, 1) := by decide +kernel
theorem dX13_mostAlike_84 : decode cX13_mostAlike 84 = .ok (.ireturn, 1) := by decide +kernel
theorem dX13_look_0 : decode cX13_look 0 = .ok (.aload_n 0, 1) := by decide +kernel
theorem dX13_look_1 : decode cX13_look 1 = .ok (.invokevirtual 430, 3) := by decide +kernel
theorem dX13_look_4 : decode cX13_look 4 = .ok (.ifCond .eq 25, 3) := by decide +kernel
theorem dX13_look_7 : decode cX13_look 7 = .ok (.iload_n 1, 1) := by decide +kernel
theorem dX13_look_8 : decode cX13_look 8 = .ok (.i2l, 1) := by decide +kernel
theorem dX13_look_9 : decode cX13_look 9 = .ok (.lconst 0, 1) := by decide +kernel
theorem dX13_look_10 : decode cX13_look 10 = .ok (.ldc2_w 459, 3) := by decide +kernel
theorem dX13_look_13 : decode cX13_look 13 = .ok (.invokestatic 161, 3) := by decide +kernel
theorem dX13_look_16 : decode cX13_look 16 = .ok (.ifCond .eq 13, 3) := by decide +kernel
theorem dX13_look_19 : decode cX13_look 19 = .ok (.iload_n 2, 1) := by decide +kernel
theorem dX13_look_20 : decode cX13_look 20 = .ok (.i2l, 1) := by decide +kernel
theorem dX13_look_21 : decode cX13_look 21 = .ok (.lconst 0, 1) := by decide +kernel
theorem dX13_look_22 : decode cX13_look 22 = .ok (.lconst 1, 1) := by decide +kernel
theorem dX13_look_23 : decode cX13_look 23 = .ok (.invokestatic 161, 3) := by decide +kernel
theorem dX13_look_26 : decode cX13_look 26 = .ok (.ifCond .ne 5, 3) := by decide +kernel
theorem dX13_look_29 : decode cX13_look 29 = .ok (.iconst (-1), 1) := by decide +kernel
theorem dX13_look_30 : decode cX13_look 30 = .ok (.ireturn, 1) := by decide +kernel
theorem dX13_look_31 : decode cX13_look 31 = .ok (.aload_n 0, 1) := by decide +kernel
theorem dX13_look_32 : decode cX13_look 32 = .ok (.invokevirtual 450, 3) := by decide +kernel
theorem dX13_look_35 : decode cX13_look 35 = .ok (.iconst 0, 1) := by decide +kernel
theorem dX13_look_36 : decode cX13_look 36 = .ok (.istore_n 3, 1) := by decide +kernel
theorem dX13_look_37 : decode cX13_look 37 = .ok (.iconst (-1), 1) := by decide +kernel
theorem dX13_look_38 : decode cX13_look 38 = .ok (.istore 4, 2) := by decide +kernel
theorem dX13_look_40 : decode cX13_look 40 = .ok (.iload 4, 2) := by decide +kernel
theorem dX13_look_42 : decode cX13_look 42 = .ok (.aload_n 0, 1) := by decide +kernel
theorem dX13_look_43 : decode cX13_look 43 = .ok (.getfield 344, 3) := by decide +kernel
theorem dX13_look_46 : decode cX13_look 46 = .ok (.if_icmp .ge 58, 3) := by decide +kernel
theorem dX13_look_49 : decode cX13_look 49 = .ok (.aload_n 0, 1) := by decide +kernel
theorem dX13_look_50 : decode cX13_look 50 = .ok (.iload 4, 2) := by decide +kernel
theorem dX13_look_52 : decode cX13_look 52 = .ok (.invokevirtual 495, 3) := by decide +kernel
theorem dX13_look_55 : decode cX13_look 55 = .ok (.ifCond .eq 43, 3) := by decide +kernel
theorem dX13_look_58 : decode cX13_look 58 = .ok (.iconst 0, 1) := by decide +kernel
theorem dX13_look_59 : decode cX13_look 59 = .ok (.istore 5, 2) := by decide +kernel
theorem dX13_look_61 : decode cX13_look 61 = .ok (.iload 5, 2) := by decide +kernel
theorem dX13_look_63 : decode cX13_look 63 = .ok (.iconst 5, 1) := by decide +kernel
theorem dX13_look_64 : decode cX13_look 64 = .ok (.if_icmp .ge 31, 3) := by decide +kernel
theorem dX13_look_67 : decode cX13_look 67 = .ok (.aload_n 0, 1) := by decide +kernel
theorem dX13_look_68 : decode cX13_look 68 = .ok (.getfield 148, 3) := by decide +kernel
theorem dX13_look_71 : decode cX13_look 71 = .ok (.iconst 5, 1) := by decide +kernel
theorem dX13_look_72 : decode cX13_look 72 = .ok (.iload_n 3, 1) := by decide +kernel
theorem dX13_look_73 : decode cX13_look 73 = .ok (.imul, 1) := by decide +kernel
theorem dX13_look_74 : decode cX13_look 74 = .ok (.iload 5, 2) := by decide +kernel
theorem dX13_look_76 : decode cX13_look 76 = .ok (.iadd, 1) := by decide +kernel
theorem dX13_look_77 : decode cX13_look 77 = .ok (.aload_n 0, 1) := by decide +kernel
theorem dX13_look_78 : decode cX13_look 78 = .ok (.getfield 145, 3) := by decide +kernel
theorem dX13_look_81 : decode cX13_look 81 = .ok (.iconst 5, 1) := by decide +kernel
theorem dX13_look_82 : decode cX13_look 82 = .ok (.iload_n 1, 1) := by decide +kernel
theorem dX13_look_83 : decode cX13_look 83 = .ok (.imul, 1) := by decide +kernel
theorem dX13_look_84 : decode cX13_look 84 = .ok (.iload 5, 2) := by decide +kernel
theorem dX13_look_86 : decode cX13_look 86 = .ok (.iadd, 1) := by decide +kernel
theorem dX13_look_87 : decode cX13_look 87 = .ok (.iaload, 1) := by decide +kernel
theorem dX13_look_88 : decode cX13_look 88 = .ok (.iastore, 1) := by decide +kernel
theorem dX13_look_89 : decode cX13_look 89 = .ok (.iinc 5 1, 3) := by decide +kernel
theorem dX13_look_92 : decode cX13_look 92 = .ok (.goto (-31), 3) := by decide +kernel
theorem dX13_look_95 : decode cX13_look 95 = .ok (.iinc 3 1, 3) := by decide +kernel
theorem dX13_look_98 : decode cX13_look 98 = .ok (.iinc 4 1, 3) := by decide +kernel
theorem dX13_look_101 : decode cX13_look 101 = .ok (.goto (-61), 3) := by decide +kernel
theorem dX13_look_104 : decode cX13_look 104 = .ok (.iload_n 3, 1) := by decide +kernel
theorem dX13_look_105 : decode cX13_look 105 = .ok (.ifCond .eq 12, 3) := by decide +kernel
theorem dX13_look_108 : decode cX13_look 108 = .ok (.aload_n 0, 1) := by decide +kernel
theorem dX13_look_109 : decode cX13_look 109 = .ok (.getfield 9, 3) := by decide +kernel
theorem dX13_look_112 : decode cX13_look 112 = .ok (.iconst 3, 1) := by decide +kernel
theorem dX13_look_113 : decode cX13_look 113 = .ok (.iaload, 1) := by decide +kernel
theorem dX13_look_114 : decode cX13_look 114 = .ok (.ifCond .ne 6, 3) := by decide +kernel
theorem dX13_look_117 : decode cX13_look 117 = .ok (.bipush (-2), 2) := by decide +kernel
theorem dX13_look_119 : decode cX13_look 119 = .ok (.ireturn, 1) := by decide +kernel
theorem dX13_look_120 : decode cX13_look 120 = .ok (.iconst 0, 1) := by decide +kernel
theorem dX13_look_121 : decode cX13_look 121 = .ok (.istore 4, 2) := by decide +kernel
theorem dX13_look_123 : decode cX13_look 123 = .ok (.iconst 1, 1) := by decide +kernel
theorem dX13_look_124 : decode cX13_look 124 = .ok (.istore 5, 2) := by decide +kernel
theorem dX13_look_126 : decode cX13_look 126 = .ok (.iload 5, 2) := by decide +kernel
theorem dX13_look_128 : decode cX13_look 128 = .ok (.aload_n 0, 1) := by decide +kernel
theorem dX13_look_129 : decode cX13_look 129 = .ok (.getfield 9, 3) := by decide +kernel
theorem dX13_look_132 : decode cX13_look 132 = .ok (.iconst 3, 1) := by decide +kernel
theorem dX13_look_133 : decode cX13_look 133 = .ok (.iaload, 1) := by decide +kernel
theorem dX13_look_134 : decode cX13_look 134 = .ok (.if_icmp .ge 35, 3) := by decide +kernel
theorem dX13_look_137 : decode cX13_look 137 = .ok (.aload_n 0, 1) := by decide +kernel
theorem dX13_look_138 : decode cX13_look 138 = .ok (.iload 5, 2) := by decide +kernel
theorem dX13_look_140 : decode cX13_look 140 = .ok (.iload_n 3, 1) := by decide +kernel
theorem dX13_look_141 : decode cX13_look 141 = .ok (.invokevirtual 498, 3) := by decide +kernel
theorem dX13_look_144 : decode cX13_look 144 = .ok (.aload_n 0, 1) := by decide +kernel
theorem dX13_look_145 : decode cX13_look 145 = .ok (.iload 4, 2) := by decide +kernel
theorem dX13_look_147 : decode cX13_look 147 = .ok (.iload_n 3, 1) := by decide +kernel
theorem dX13_look_148 : decode cX13_look 148 = .ok (.invokevirtual 498, 3) := by decide +kernel
theorem dX13_look_151 : decode cX13_look 151 = .ok (.if_icmp .ge 8, 3) := by decide +kernel
theorem dX13_look_154 : decode cX13_look 154 = .ok (.iload 5, 2) := by decide +kernel
theorem dX13_look_156 : decode cX13_look 156 = .ok (.goto 5, 3) := by decide +kernel
theorem dX13_look_159 : decode cX13_look 159 = .ok (.iload 4, 2) := by decide +kernel
theorem dX13_look_161 : decode cX13_look 161 = .ok (.istore 4, 2) := by decide +kernel
theorem dX13_look_163 : decode cX13_look 163 = .ok (.iinc 5 1, 3) := by decide +kernel
theorem dX13_look_166 : decode cX13_look 166 = .ok (.goto (-40), 3) := by decide +kernel
theorem dX13_look_169 : decode cX13_look 169 = .ok (.iload_n 2, 1) := by decide +kernel
theorem dX13_look_170 : decode cX13_look 170 = .ok (.ifCond .ne 8, 3) := by decide +kernel
theorem dX13_look_173 : decode cX13_look 173 = .ok (.iload 4, 2) := by decide +kernel
theorem dX13_look_175 : decode cX13_look 175 = .ok (.goto 10, 3) := by decide +kernel
theorem dX13_look_178 : decode cX13_look 178 = .ok (.aload_n 0, 1) := by decide +kernel
theorem dX13_look_179 : decode cX13_look 179 = .ok (.iload 4, 2) := by decide +kernel
theorem dX13_look_181 : decode cX13_look 181 = .ok (.iload_n 3, 1) := by decide +kernel
theorem dX13_look_182 : decode cX13_look 182 = .ok (.invokevirtual 498, 3) := by decide +kernel
theorem dX13_look_185 : decode cX13_look 185 = .ok (.ireturn, 1) := by decide +kernel
theorem dX13_seed_0 : decode cX13_seed 0 = .ok (.iload_n 1, 1) := by decide +kernel
theorem dX13_seed_1 : decode cX13_seed 1 = .ok (.ifCond .ge 5, 3) := by decide +kernel
theorem dX13_seed_4 : decode cX13_seed 4 = .ok (.iconst (-1), 1) := by decide +kernel
theorem dX13_seed_5 : decode cX13_seed 5 = .ok (.ireturn, 1) := by decide +kernel
theorem dX13_seed_6 : decode cX13_seed 6 = .ok (.aload_n 0, 1) := by decide +kernel
theorem dX13_seed_7 : decode cX13_seed 7 = .ok (.getfield 9, 3) := by decide +kernel
theorem dX13_seed_10 : decode cX13_seed 10 = .ok (.bipush 8, 2) := by decide +kernel
theorem dX13_seed_12 : decode cX13_seed 12 = .ok (.iaload, 1) := by decide +kernel
theorem dX13_seed_13 : decode cX13_seed 13 = .ok (.istore_n 2, 1) := by decide +kernel
theorem dX13_seed_14 : decode cX13_seed 14 = .ok (.aload_n 0, 1) := by decide +kernel
theorem dX13_seed_15 : decode cX13_seed 15 = .ok (.getfield 9, 3) := by decide +kernel
theorem dX13_seed_18 : decode cX13_seed 18 = .ok (.bipush 8, 2) := by decide +kernel
theorem dX13_seed_20 : decode cX13_seed 20 = .ok (.iload_n 1, 1) := by decide +kernel
theorem dX13_seed_21 : decode cX13_seed 21 = .ok (.iastore, 1) := by decide +kernel
theorem dX13_seed_22 : decode cX13_seed 22 = .ok (.iload_n 2, 1) := by decide +kernel
theorem dX13_seed_23 : decode cX13_seed 23 = .ok (.ireturn, 1) := by decide +kernel
theorem dX13_draws_0 : decode cX13_draws 0 = .ok (.aload_n 0, 1) := by decide +kernel
theorem dX13_draws_1 : decode cX13_draws 1 = .ok (.getfield 9, 3) := by decide +kernel
theorem dX13_draws_4 : decode cX13_draws 4 = .ok (.bipush 8, 2) := by decide +kernel
theorem dX13_draws_6 : decode cX13_draws 6 = .ok (.aload_n 0, 1) := by decide +kernel
theorem dX13_draws_7 : decode cX13_draws 7 = .ok (.getfield 9, 3) := by decide +kernel
theorem dX13_draws_10 : decode cX13_draws 10 = .ok (.bipush 8, 2) := by decide +kernel
theorem dX13_draws_12 : decode cX13_draws 12 = .ok (.iaload, 1) := by decide +kernel
theorem dX13_draws_13 : decode cX13_draws 13 = .ok (.i2l, 1) := by decide +kernel
theorem dX13_draws_14 : decode cX13_draws 14 = .ok (.ldc2_w 501, 3) := by decide +kernel
theorem dX13_draws_17 : decode cX13_draws 17 = .ok (.lmul, 1) := by decide +kernel
theorem dX13_draws_18 : decode cX13_draws 18 = .ok (.ldc2_w 503, 3) := by decide +kernel
theorem dX13_draws_21 : decode cX13_draws 21 = .ok (.ladd, 1) := by decide +kernel
theorem dX13_draws_22 : decode cX13_draws 22 = .ok (.ldc2_w 505, 3) := by decide +kernel
theorem dX13_draws_25 : decode cX13_draws 25 = .ok (.lrem, 1) := by decide +kernel
theorem dX13_draws_26 : decode cX13_draws 26 = .ok (.l2i, 1) := by decide +kernel
theorem dX13_draws_27 : decode cX13_draws 27 = .ok (.iastore, 1) := by decide +kernel
theorem dX13_draws_28 : decode cX13_draws 28 = .ok (.aload_n 0, 1) := by decide +kernel
theorem dX13_draws_29 : decode cX13_draws 29 = .ok (.getfield 9, 3) := by decide +kernel
theorem dX13_draws_32 : decode cX13_draws 32 = .ok (.bipush 8, 2) := by decide +kernel
theorem dX13_draws_34 : decode cX13_draws 34 = .ok (.iaload, 1) := by decide +kernel
theorem dX13_draws_35 : decode cX13_draws 35 = .ok (.ldc_w 507, 3) := by decide +kernel
theorem dX13_draws_38 : decode cX13_draws 38 = .ok (.idiv, 1) := by decide +kernel
theorem dX13_draws_39 : decode cX13_draws 39 = .ok (.iload_n 1, 1) := by decide +kernel
theorem dX13_draws_40 : decode cX13_draws 40 = .ok (.irem, 1) := by decide +kernel
theorem dX13_draws_41 : decode cX13_draws 41 = .ok (.ireturn, 1) := by decide +kernel
theorem dX13_markets_0 : decode cX13_markets 0 = .ok (.aload_n 0, 1) := by decide +kernel
theorem dX13_markets_1 : decode cX13_markets 1 = .ok (.invokevirtual 430, 3) := by decide +kernel
theorem dX13_markets_4 : decode cX13_markets 4 = .ok (.ifCond .eq 50, 3) := by decide +kernel
theorem dX13_markets_7 : decode cX13_markets 7 = .ok (.iload_n 1, 1) := by decide +kernel
theorem dX13_markets_8 : decode cX13_markets 8 = .ok (.i2l, 1) := by decide +kernel
theorem dX13_markets_9 : decode cX13_markets 9 = .ok (.lconst 1, 1) := by decide +kernel
theorem dX13_markets_10 : decode cX13_markets 10 = .ok (.ldc2_w 508, 3) := by decide +kernel
theorem dX13_markets_13 : decode cX13_markets 13 = .ok (.invokestatic 161, 3) := by decide +kernel
theorem dX13_markets_16 : decode cX13_markets 16 = .ok (.ifCond .eq 38, 3) := by decide +kernel
theorem dX13_markets_19 : decode cX13_markets 19 = .ok (.iload_n 2, 1) := by decide +kernel
theorem dX13_markets_20 : decode cX13_markets 20 = .ok (.i2l, 1) := by decide +kernel
theorem dX13_markets_21 : decode cX13_markets 21 = .ok (.lconst 1, 1) := by decide +kernel
theorem dX13_markets_22 : decode cX13_markets 22 = .ok (.ldc2_w 459, 3) := by decide +kernel
theorem dX13_markets_25 : decode cX13_markets 25 = .ok (.invokestatic 161, 3) := by decide +kernel
theorem dX13_markets_28 : decode cX13_markets 28 = .ok (.ifCond .eq 26, 3) := by decide +kernel
theorem dX13_markets_31 : decode cX13_markets 31 = .ok (.iload_n 3, 1) := by decide +kernel
theorem dX13_markets_32 : decode cX13_markets 32 = .ok (.i2l, 1) := by decide +kernel
theorem dX13_markets_33 : decode cX13_markets 33 = .ok (.lconst 0, 1) := by decide +kernel
theorem dX13_markets_34 : decode cX13_markets 34 = .ok (.ldc2_w 448, 3) := by decide +kernel
theorem dX13_markets_37 : decode cX13_markets 37 = .ok (.invokestatic 161, 3) := by decide +kernel
theorem dX13_markets_40 : decode cX13_markets 40 = .ok (.ifCond .eq 14, 3) := by decide +kernel
theorem dX13_markets_43 : decode cX13_markets 43 = .ok (.iload 4, 2) := by decide +kernel
theorem dX13_markets_45 : decode cX13_markets 45 = .ok (.i2l, 1) := by decide +kernel
theorem dX13_markets_46 : decode cX13_markets 46 = .ok (.lconst 0, 1) := by decide +kernel
theorem dX13_markets_47 : decode cX13_markets 47 = .ok (.lconst 1, 1) := by decide +kernel
theorem dX13_markets_48 : decode cX13_markets 48 = .ok (.invokestatic 161, 3) := by decide +kernel
theorem dX13_markets_51 : decode cX13_markets 51 = .ok (.ifCond .ne 5, 3) := by decide +kernel
theorem dX13_markets_54 : decode cX13_markets 54 = .ok (.iconst (-1), 1) := by decide +kernel
theorem dX13_markets_55 : decode cX13_markets 55 = .ok (.ireturn, 1) := by decide +kernel
theorem dX13_markets_56 : decode cX13_markets 56 = .ok (.aload_n 0, 1) := by decide +kernel
theorem dX13_markets_57 : decode cX13_markets 57 = .ok (.getfield 9, 3) := by decide +kernel
theorem dX13_markets_60 : decode cX13_markets 60 = .ok (.bipush 8, 2) := by decide +kernel
theorem dX13_markets_62 : decode cX13_markets 62 = .ok (.iaload, 1) := by decide +kernel
theorem dX13_markets_63 : decode cX13_markets 63 = .ok (.istore 5, 2) := by decide +kernel
theorem dX13_markets_65 : decode cX13_markets 65 = .ok (.iload 5, 2) := by decide +kernel
theorem dX13_markets_67 : decode cX13_markets 67 = .ok (.istore 6, 2) := by decide +kernel
theorem dX13_markets_69 : decode cX13_markets 69 = .ok (.iload 4, 2) := by decide +kernel
theorem dX13_markets_71 : decode cX13_markets 71 = .ok (.ifCond .ne 13, 3) := by decide +kernel
theorem dX13_markets_74 : decode cX13_markets 74 = .ok (.aload_n 0, 1) := by decide +kernel
theorem dX13_markets_75 : decode cX13_markets 75 = .ok (.getfield 9, 3) := by decide +kernel
theorem dX13_markets_78 : decode cX13_markets 78 = .ok (.bipush 6, 2) := by decide +kernel
theorem dX13_markets_80 : decode cX13_markets 80 = .ok (.iaload, 1) := by decide +kernel
theorem dX13_markets_81 : decode cX13_markets 81 = .ok (.goto 7, 3) := by decide +kernel
theorem dX13_markets_84 : decode cX13_markets 84 = .ok (.aload_n 0, 1) := by decide +kernel
theorem dX13_markets_85 : decode cX13_markets 85 = .ok (.invokevirtual 489, 3) := by decide +kernel
theorem dX13_markets_88 : decode cX13_markets 88 = .ok (.istore 7, 2) := by decide +kernel
theorem dX13_markets_90 : decode cX13_markets 90 = .ok (.iconst 0, 1) := by decide +kernel
theorem dX13_markets_91 : decode cX13_markets 91 = .ok (.istore 8, 2) := by decide +kernel
theorem dX13_markets_93 : decode cX13_markets 93 = .ok (.aload_n 0, 1) := by decide +kernel
theorem dX13_markets_94 : decode cX13_markets 94 = .ok (.invokevirtual 450, 3) := by decide +kernel
theorem dX13_markets_97 : decode cX13_markets 97 = .ok (.iconst 0, 1) := by decide +kernel
theorem dX13_markets_98 : decode cX13_markets 98 = .ok (.istore 9, 2) := by decide +kernel
theorem dX13_markets_100 : decode cX13_markets 100 = .ok (.iload 9, 2) := by decide +kernel
theorem dX13_markets_102 : decode cX13_markets 102 = .ok (.iload_n 1, 1) := by decide +kernel
theorem dX13_markets_103 : decode cX13_markets 103 = .ok (.if_icmp .ge 126, 3) := by decide +kernel
theorem dX13_markets_106 : decode cX13_markets 106 = .ok (.aload_n 0, 1) := by decide +kernel
theorem dX13_markets_107 : decode cX13_markets 107 = .ok (.getfield 9, 3) := by decide +kernel
theorem dX13_markets_110 : decode cX13_markets 110 = .ok (.bipush 8, 2) := by decide +kernel
theorem dX13_markets_112 : decode cX13_markets 112 = .ok (.iload 6, 2) := by decide +kernel
theorem dX13_markets_114 : decode cX13_markets 114 = .ok (.iastore, 1) := by decide +kernel
theorem dX13_markets_115 : decode cX13_markets 115 = .ok (.iconst 0, 1) := by decide +kernel
theorem dX13_markets_116 : decode cX13_markets 116 = .ok (.istore 10, 2) := by decide +kernel
theorem dX13_markets_118 : decode cX13_markets 118 = .ok (.iload 10, 2) := by decide +kernel
theorem dX13_markets_120 : decode cX13_markets 120 = .ok (.iload_n 2, 1) := by decide +kernel
theorem dX13_markets_121 : decode cX13_markets 121 = .ok (.if_icmp .ge 62, 3) := by decide +kernel
theorem dX13_markets_124 : decode cX13_markets 124 = .ok (.aload_n 0, 1) := by decide +kernel
theorem dX13_markets_125 : decode cX13_markets 125 = .ok (.bipush 100, 2) := by decide +kernel
theorem dX13_markets_127 : decode cX13_markets 127 = .ok (.invokevirtual 510, 3) := by decide +kernel
theorem dX13_markets_130 : decode cX13_markets 130 = .ok (.iload_n 3, 1) := by decide +kernel
theorem dX13_markets_131 : decode cX13_markets 131 = .ok (.if_icmp .ge 41, 3) := by decide +kernel
theorem dX13_markets_134 : decode cX13_markets 134 = .ok (.aload_n 0, 1) := by decide +kernel
theorem dX13_markets_135 : decode cX13_markets 135 = .ok (.getfield 9, 3) := by decide +kernel
theorem dX13_markets_138 : decode cX13_markets 138 = .ok (.iconst 2, 1) := by decide +kernel
theorem dX13_markets_139 : decode cX13_markets 139 = .ok (.iaload, 1) := by decide +kernel
theorem dX13_markets_140 : decode cX13_markets 140 = .ok (.ifCond .le 32, 3) := by decide +kernel
theorem dX13_markets_143 : decode cX13_markets 143 = .ok (.aload_n 0, 1) := by decide +kernel
theorem dX13_markets_144 : decode cX13_markets 144 = .ok (.aload_n 0, 1) := by decide +kernel
theorem dX13_markets_145 : decode cX13_markets 145 = .ok (.getfield 9, 3) := by decide +kernel
theorem dX13_markets_148 : decode cX13_markets 148 = .ok (.iconst 2, 1) := by decide +kernel
theorem dX13_markets_149 : decode cX13_markets 149 = .ok (.iaload, 1) := by decide +kernel
theorem dX13_markets_150 : decode cX13_markets 150 = .ok (.invokevirtual 510, 3) := by decide +kernel
theorem dX13_markets_153 : decode cX13_markets 153 = .ok (.istore 11, 2) := by decide +kernel
theorem dX13_markets_155 : decode cX13_markets 155 = .ok (.aload_n 0, 1) := by decide +kernel
theorem dX13_markets_156 : decode cX13_markets 156 = .ok (.getfield 13, 3) := by decide +kernel
theorem dX13_markets_159 : decode cX13_markets 159 = .ok (.iload 11, 2) := by decide +kernel
theorem dX13_markets_161 : decode cX13_markets 161 = .ok (.aload_n 0, 1) := by decide +kernel
theorem dX13_markets_162 : decode cX13_markets 162 = .ok (.aload_n 0, 1) := by decide +kernel
theorem dX13_markets_163 : decode cX13_markets 163 = .ok (.getfield 9, 3) := by decide +kernel
theorem dX13_markets_166 : decode cX13_markets 166 = .ok (.iconst 0, 1) := by decide +kernel
theorem dX13_markets_167 : decode cX13_markets 167 = .ok (.iaload, 1) := by decide +kernel
theorem dX13_markets_168 : decode cX13_markets 168 = .ok (.invokevirtual 510, 3) := by decide +kernel
theorem dX13_markets_171 : decode cX13_markets 171 = .ok (.iastore, 1) := by decide +kernel
theorem dX13_markets_172 : decode cX13_markets 172 = .ok (.aload_n 0, 1) := by decide +kernel
theorem dX13_markets_173 : decode cX13_markets 173 = .ok (.invokevirtual 409, 3) := by decide +kernel
theorem dX13_markets_176 : decode cX13_markets 176 = .ok (.pop, 1) := by decide +kernel
theorem dX13_markets_177 : decode cX13_markets 177 = .ok (.iinc 10 1, 3) := by decide +kernel
theorem dX13_markets_180 : decode cX13_markets 180 = .ok (.goto (-62), 3) := by decide +kernel
theorem dX13_markets_183 : decode cX13_markets 183 = .ok (.iload 8, 2) := by decide +kernel
theorem dX13_markets_185 : decode cX13_markets 185 = .ok (.iload 4, 2) := by decide +kernel
theorem dX13_markets_187 : decode cX13_markets 187 = .ok (.ifCond .ne 13, 3) := by decide +kernel
theorem dX13_markets_190 : decode cX13_markets 190 = .ok (.aload_n 0, 1) := by decide +kernel
theorem dX13_markets_191 : decode cX13_markets 191 = .ok (.getfield 9, 3) := by decide +kernel
theorem dX13_markets_194 : decode cX13_markets 194 = .ok (.bipush 6, 2) := by decide +kernel
theorem dX13_markets_196 : decode cX13_markets 196 = .ok (.iaload, 1) := by decide +kernel
theorem dX13_markets_197 : decode cX13_markets 197 = .ok (.goto 7, 3) := by decide +kernel
theorem dX13_markets_200 : decode cX13_markets 200 = .ok (.aload_n 0, 1) := by decide +kernel
theorem dX13_markets_201 : decode cX13_markets 201 = .ok (.invokevirtual 489, 3) := by decide +kernel
theorem dX13_markets_204 : decode cX13_markets 204 = .ok (.iload 7, 2) := by decide +kernel
theorem dX13_markets_206 : decode cX13_markets 206 = .ok (.isub, 1) := by decide +kernel
theorem dX13_markets_207 : decode cX13_markets 207 = .ok (.iadd, 1) := by decide +kernel
theorem dX13_markets_208 : decode cX13_markets 208 = .ok (.istore 8, 2) := by decide +kernel
theorem dX13_markets_210 : decode cX13_markets 210 = .ok (.aload_n 0, 1) := by decide +kernel
theorem dX13_markets_211 : decode cX13_markets 211 = .ok (.getfield 9, 3) := by decide +kernel
theorem dX13_markets_214 : decode cX13_markets 214 = .ok (.bipush 8, 2) := by decide +kernel
theorem dX13_markets_216 : decode cX13_markets 216 = .ok (.iaload, 1) := by decide +kernel
theorem dX13_markets_217 : decode cX13_markets 217 = .ok (.istore 6, 2) := by decide +kernel
theorem dX13_markets_219 : decode cX13_markets 219 = .ok (.aload_n 0, 1) := by decide +kernel
theorem dX13_markets_220 : decode cX13_markets 220 = .ok (.invokevirtual 456, 3) := by decide +kernel
theorem dX13_markets_223 : decode cX13_markets 223 = .ok (.iinc 9 1, 3) := by decide +kernel
theorem dX13_markets_226 : decode cX13_markets 226 = .ok (.goto (-126), 3) := by decide +kernel
theorem dX13_markets_229 : decode cX13_markets 229 = .ok (.aload_n 0, 1) := by decide +kernel
theorem dX13_markets_230 : decode cX13_markets 230 = .ok (.getfield 9, 3) := by decide +kernel
theorem dX13_markets_233 : decode cX13_markets 233 = .ok (.bipush 8, 2) := by decide +kernel
theorem dX13_markets_235 : decode cX13_markets 235 = .ok (.iload 5, 2) := by decide +kernel
theorem dX13_markets_237 : decode cX13_markets 237 = .ok (.iastore, 1) := by decide +kernel
theorem dX13_markets_238 : decode cX13_markets 238 = .ok (.iload 8, 2) := by decide +kernel
theorem dX13_markets_240 : decode cX13_markets 240 = .ok (.ireturn, 1) := by decide +kernel
theorem dX13_count_0 : decode cX13_count 0 = .ok (.iload_n 1, 1) := by decide +kernel
theorem dX13_count_1 : decode cX13_count 1 = .ok (.tableswitch 165 0 13 #[71, 78, 85, 92, 99, 104, 112, 119, 126, 134, 139, 147, 152, 160], 71) := by decide +kernel
theorem dX13_count_72 : decode cX13_count 72 = .ok (.aload_n 0, 1) := by decide +kernel
theorem dX13_count_73 : decode cX13_count 73 = .ok (.getfield 9, 3) := by decide +kernel
theorem dX13_count_76 : decode cX13_count 76 = .ok (.iconst 0, 1) := by decide +kernel
theorem dX13_count_77 : decode cX13_count 77 = .ok (.iaload, 1) := by decide +kernel
theorem dX13_count_78 : decode cX13_count 78 = .ok (.ireturn, 1) := by decide +kernel
theorem dX13_count_79 : decode cX13_count 79 = .ok (.aload_n 0, 1) := by decide +kernel
theorem dX13_count_80 : decode cX13_count 80 = .ok (.getfield 9, 3) := by decide +kernel
theorem dX13_count_83 : decode cX13_count 83 = .ok (.iconst 1, 1) := by decide +kernel
theorem dX13_count_84 : decode cX13_count 84 = .ok (.iaload, 1) := by decide +kernel
theorem dX13_count_85 : decode cX13_count 85 = .ok (.ireturn, 1) := by decide +kernel
theorem dX13_count_86 : decode cX13_count 86 = .ok (.aload_n 0, 1) := by decide +kernel
theorem dX13_count_87 : decode cX13_count 87 = .ok (.getfield 9, 3) := by decide +kernel
theorem dX13_count_90 : decode cX13_count 90 = .ok (.iconst 2, 1) := by decide +kernel
theorem dX13_count_91 : decode cX13_count 91 = .ok (.iaload, 1) := by decide +kernel
theorem dX13_count_92 : decode cX13_count 92 = .ok (.ireturn, 1) := by decide +kernel
theorem dX13_count_93 : decode cX13_count 93 = .ok (.aload_n 0, 1) := by decide +kernel
theorem dX13_count_94 : decode cX13_count 94 = .ok (.getfield 9, 3) := by decide +kernel
theorem dX13_count_97 : decode cX13_count 97 = .ok (.iconst 3, 1) := by decide +kernel
theorem dX13_count_98 : decode cX13_count 98 = .ok (.iaload, 1) := by decide +kernel
theorem dX13_count_99 : decode cX13_count 99 = .ok (.ireturn, 1) := by decide +kernel
theorem dX13_count_100 : decode cX13_count 100 = .ok (.aload_n 0, 1) := by decide +kernel
theorem dX13_count_101 : decode cX13_count 101 = .ok (.getfield 344, 3) := by decide +kernel
theorem dX13_count_104 : decode cX13_count 104 = .ok (.ireturn, 1) := by decide +kernel
theorem dX13_count_105 : decode cX13_count 105 = .ok (.aload_n 0, 1) := by decide +kernel
theorem dX13_count_106 : decode cX13_count 106 = .ok (.getfield 9, 3) := by decide +kernel
theorem dX13_count_109 : decode cX13_count 109 = .ok (.bipush 9, 2) := by decide +kernel
theorem dX13_count_111 : decode cX13_count 111 = .ok (.iaload, 1) := by decide +kernel
theorem dX13_count_112 : decode cX13_count 112 = .ok (.ireturn, 1) := by decide +kernel
theorem dX13_count_113 : decode cX13_count 113 = .ok (.aload_n 0, 1) := by decide +kernel
theorem dX13_count_114 : decode cX13_count 114 = .ok (.getfield 9, 3) := by decide +kernel
theorem dX13_count_117 : decode cX13_count 117 = .ok (.iconst 4, 1) := by decide +kernel
theorem dX13_count_118 : decode cX13_count 118 = .ok (.iaload, 1) := by decide +kernel
theorem dX13_count_119 : decode cX13_count 119 = .ok (.ireturn, 1) := by decide +kernel
theorem dX13_count_120 : decode cX13_count 120 = .ok (.aload_n 0, 1) := by decide +kernel
theorem dX13_count_121 : decode cX13_count 121 = .ok (.getfield 9, 3) := by decide +kernel
theorem dX13_count_124 : decode cX13_count 124 = .ok (.iconst 5, 1) := by decide +kernel
theorem dX13_count_125 : decode cX13_count 125 = .ok (.iaload, 1) := by decide +kernel
theorem dX13_count_126 : decode cX13_count 126 = .ok (.ireturn, 1) := by decide +kernel
theorem dX13_count_127 : decode cX13_count 127 = .ok (.aload_n 0, 1) := by decide +kernel
theorem dX13_count_128 : decode cX13_count 128 = .ok (.getfield 9, 3) := by decide +kernel
theorem dX13_count_131 : decode cX13_count 131 = .ok (.bipush 6, 2) := by decide +kernel
theorem dX13_count_133 : decode cX13_count 133 = .ok (.iaload, 1) := by decide +kernel
theorem dX13_count_134 : decode cX13_count 134 = .ok (.ireturn, 1) := by decide +kernel
theorem dX13_count_135 : decode cX13_count 135 = .ok (.aload_n 0, 1) := by decide +kernel
theorem dX13_count_136 : decode cX13_count 136 = .ok (.invokevirtual 489, 3) := by decide +kernel
theorem dX13_count_139 : decode cX13_count 139 = .ok (.ireturn, 1) := by decide +kernel
theorem dX13_count_140 : decode cX13_count 140 = .ok (.aload_n 0, 1) := by decide +kernel
theorem dX13_count_141 : decode cX13_count 141 = .ok (.getfield 9, 3) := by decide +kernel
theorem dX13_count_144 : decode cX13_count 144 = .ok (.bipush 7, 2) := by decide +kernel
theorem dX13_count_146 : decode cX13_count 146 = .ok (.iaload, 1) := by decide +kernel
theorem dX13_count_147 : decode cX13_count 147 = .ok (.ireturn, 1) := by decide +kernel
theorem dX13_count_148 : decode cX13_count 148 = .ok (.aload_n 0, 1) := by decide +kernel
theorem dX13_count_149 : decode cX13_count 149 = .ok (.getfield 331, 3) := by decide +kernel
theorem dX13_count_152 : decode cX13_count 152 = .ok (.ireturn, 1) := by decide +kernel
theorem dX13_count_153 : decode cX13_count 153 = .ok (.aload_n 0, 1) := by decide +kernel
theorem dX13_count_154 : decode cX13_count 154 = .ok (.getfield 9, 3) := by decide +kernel
theorem dX13_count_157 : decode cX13_count 157 = .ok (.bipush 8, 2) := by decide +kernel
theorem dX13_count_159 : decode cX13_count 159 = .ok (.iaload, 1) := by decide +kernel
theorem dX13_count_160 : decode cX13_count 160 = .ok (.ireturn, 1) := by decide +kernel
theorem dX13_count_161 : decode cX13_count 161 = .ok (.aload_n 0, 1) := by decide +kernel
theorem dX13_count_162 : decode cX13_count 162 = .ok (.getfield 165, 3) := by decide +kernel
theorem dX13_count_165 : decode cX13_count 165 = .ok (.ireturn, 1) := by decide +kernel
theorem dX13_count_166 : decode cX13_count 166 = .ok (.iconst (-1), 1) := by decide +kernel
theorem dX13_count_167 : decode cX13_count 167 = .ok (.ireturn, 1) := by decide +kernel
theorem dX13_carryRow_0 : decode cX13_carryRow 0 = .ok (.iconst 0, 1) := by decide +kernel
theorem dX13_carryRow_1 : decode cX13_carryRow 1 = .ok (.istore_n 2, 1) := by decide +kernel
theorem dX13_carryRow_2 : decode cX13_carryRow 2 = .ok (.iload_n 2, 1) := by decide +kernel
theorem dX13_carryRow_3 : decode cX13_carryRow 3 = .ok (.aload_n 1, 1) := by decide +kernel
theorem dX13_carryRow_4 : decode cX13_carryRow 4 = .ok (.arraylength, 1) := by decide +kernel
theorem dX13_carryRow_5 : decode cX13_carryRow 5 = .ok (.if_icmp .ge 53, 3) := by decide +kernel
theorem dX13_carryRow_8 : decode cX13_carryRow 8 = .ok (.aload_n 0, 1) := by decide +kernel
theorem dX13_carryRow_9 : decode cX13_carryRow 9 = .ok (.getfield 513, 3) := by decide +kernel
theorem dX13_carryRow_12 : decode cX13_carryRow 12 = .ok (.ifCond .eq 18, 3) := by decide +kernel
theorem dX13_carryRow_15 : decode cX13_carryRow 15 = .ok (.aload_n 1, 1) := by decide +kernel
theorem dX13_carryRow_16 : decode cX13_carryRow 16 = .ok (.iload_n 2, 1) := by decide +kernel
theorem dX13_carryRow_17 : decode cX13_carryRow 17 = .ok (.aload_n 0, 1) := by decide +kernel
theorem dX13_carryRow_18 : decode cX13_carryRow 18 = .ok (.getfield 151, 3) := by decide +kernel
theorem dX13_carryRow_21 : decode cX13_carryRow 21 = .ok (.aload_n 0, 1) := by decide +kernel
theorem dX13_carryRow_22 : decode cX13_carryRow 22 = .ok (.getfield 516, 3) := by decide +kernel
theorem dX13_carryRow_25 : decode cX13_carryRow 25 = .ok (.iaload, 1) := by decide +kernel
theorem dX13_carryRow_26 : decode cX13_carryRow 26 = .ok (.iastore, 1) := by decide +kernel
theorem dX13_carryRow_27 : decode cX13_carryRow 27 = .ok (.goto 15, 3) := by decide +kernel
theorem dX13_carryRow_30 : decode cX13_carryRow 30 = .ok (.aload_n 0, 1) := by decide +kernel
theorem dX13_carryRow_31 : decode cX13_carryRow 31 = .ok (.getfield 151, 3) := by decide +kernel
theorem dX13_carryRow_34 : decode cX13_carryRow 34 = .ok (.aload_n 0, 1) := by decide +kernel
theorem dX13_carryRow_35 : decode cX13_carryRow 35 = .ok (.getfield 516, 3) := by decide +kernel
theorem dX13_carryRow_38 : decode cX13_carryRow 38 = .ok (.aload_n 1, 1) := by decide +kernel
theorem dX13_carryRow_39 : decode cX13_carryRow 39 = .ok (.iload_n 2, 1) := by decide +kernel
theorem dX13_carryRow_40 : decode cX13_carryRow 40 = .ok (.iaload, 1) := by decide +kernel
theorem dX13_carryRow_41 : decode cX13_carryRow 41 = .ok (.iastore, 1) := by decide +kernel
theorem dX13_carryRow_42 : decode cX13_carryRow 42 = .ok (.aload_n 0, 1) := by decide +kernel
theorem dX13_carryRow_43 : decode cX13_carryRow 43 = .ok (.dup, 1) := by decide +kernel
theorem dX13_carryRow_44 : decode cX13_carryRow 44 = .ok (.getfield 516, 3) := by decide +kernel
theorem dX13_carryRow_47 : decode cX13_carryRow 47 = .ok (.iconst 1, 1) := by decide +kernel
theorem dX13_carryRow_48 : decode cX13_carryRow 48 = .ok (.iadd, 1) := by decide +kernel
theorem dX13_carryRow_49 : decode cX13_carryRow 49 = .ok (.putfield 516, 3) := by decide +kernel
theorem dX13_carryRow_52 : decode cX13_carryRow 52 = .ok (.iinc 2 1, 3) := by decide +kernel
theorem dX13_carryRow_55 : decode cX13_carryRow 55 = .ok (.goto (-53), 3) := by decide +kernel
theorem dX13_carryRow_58 : decode cX13_carryRow 58 = .ok (.return_, 1) := by decide +kernel
theorem dX13_carriesAll_0 : decode cX13_carriesAll 0 = .ok (.aload_n 0, 1) := by decide +kernel
theorem dX13_carriesAll_1 : decode cX13_carriesAll 1 = .ok (.sipush 1900, 3) := by decide +kernel
theorem dX13_carriesAll_4 : decode cX13_carriesAll 4 = .ok (.iload_n 1, 1) := by decide +kernel
theorem dX13_carriesAll_5 : decode cX13_carriesAll 5 = .ok (.imul, 1) := by decide +kernel
theorem dX13_carriesAll_6 : decode cX13_carriesAll 6 = .ok (.putfield 516, 3) := by decide +kernel
theorem dX13_carriesAll_9 : decode cX13_carriesAll 9 = .ok (.aload_n 0, 1) := by decide +kernel
theorem dX13_carriesAll_10 : decode cX13_carriesAll 10 = .ok (.iload_n 2, 1) := by decide +kernel
theorem dX13_carriesAll_11 : decode cX13_carriesAll 11 = .ok (.putfield 513, 3) := by decide +kernel
theorem dX13_carriesAll_14 : decode cX13_carriesAll 14 = .ok (.aload_n 0, 1) := by decide +kernel
theorem dX13_carriesAll_15 : decode cX13_carriesAll 15 = .ok (.aload_n 0, 1) := by decide +kernel
theorem dX13_carriesAll_16 : decode cX13_carriesAll 16 = .ok (.getfield 9, 3) := by decide +kernel
theorem dX13_carriesAll_19 : decode cX13_carriesAll 19 = .ok (.invokevirtual 519, 3) := by decide +kernel
theorem dX13_carriesAll_22 : decode cX13_carriesAll 22 = .ok (.aload_n 0, 1) := by decide +kernel
theorem dX13_carriesAll_23 : decode cX13_carriesAll 23 = .ok (.aload_n 0, 1) := by decide +kernel
theorem dX13_carriesAll_24 : decode cX13_carriesAll 24 = .ok (.getfield 13, 3) := by decide +kernel
theorem dX13_carriesAll_27 : decode cX13_carriesAll 27 = .ok (.invokevirtual 519, 3) := by decide +kernel
theorem dX13_carriesAll_30 : decode cX13_carriesAll 30 = .ok (.aload_n 0, 1) := by decide +kernel
theorem dX13_carriesAll_31 : decode cX13_carriesAll 31 = .ok (.aload_n 0, 1) := by decide +kernel
theorem dX13_carriesAll_32 : decode cX13_carriesAll 32 = .ok (.getfield 16, 3) := by decide +kernel
theorem dX13_carriesAll_35 : decode cX13_carriesAll 35 = .ok (.invokevirtual 519, 3) := by decide +kernel
theorem dX13_carriesAll_38 : decode cX13_carriesAll 38 = .ok (.aload_n 0, 1) := by decide +kernel
theorem dX13_carriesAll_39 : decode cX13_carriesAll 39 = .ok (.aload_n 0, 1) := by decide +kernel
theorem dX13_carriesAll_40 : decode cX13_carriesAll 40 = .ok (.getfield 19, 3) := by decide +kernel
theorem dX13_carriesAll_43 : decode cX13_carriesAll 43 = .ok (.invokevirtual 519, 3) := by decide +kernel
theorem dX13_carriesAll_46 : decode cX13_carriesAll 46 = .ok (.aload_n 0, 1) := by decide +kernel
theorem dX13_carriesAll_47 : decode cX13_carriesAll 47 = .ok (.aload_n 0, 1) := by decide +kernel
theorem dX13_carriesAll_48 : decode cX13_carriesAll 48 = .ok (.getfield 22, 3) := by decide +kernel
theorem dX13_carriesAll_51 : decode cX13_carriesAll 51 = .ok (.invokevirtual 519, 3) := by decide +kernel
theorem dX13_carriesAll_54 : decode cX13_carriesAll 54 = .ok (.aload_n 0, 1) := by decide +kernel
theorem dX13_carriesAll_55 : decode cX13_carriesAll 55 = .ok (.aload_n 0, 1) := by decide +kernel
theorem dX13_carriesAll_56 : decode cX13_carriesAll 56 = .ok (.getfield 25, 3) := by decide +kernel
theorem dX13_carriesAll_59 : decode cX13_carriesAll 59 = .ok (.invokevirtual 519, 3) := by decide +kernel
theorem dX13_carriesAll_62 : decode cX13_carriesAll 62 = .ok (.aload_n 0, 1) := by decide +kernel
theorem dX13_carriesAll_63 : decode cX13_carriesAll 63 = .ok (.aload_n 0, 1) := by decide +kernel
theorem dX13_carriesAll_64 : decode cX13_carriesAll 64 = .ok (.getfield 28, 3) := by decide +kernel
theorem dX13_carriesAll_67 : decode cX13_carriesAll 67 = .ok (.invokevirtual 519, 3) := by decide +kernel
theorem dX13_carriesAll_70 : decode cX13_carriesAll 70 = .ok (.aload_n 0, 1) := by decide +kernel
theorem dX13_carriesAll_71 : decode cX13_carriesAll 71 = .ok (.aload_n 0, 1) := by decide +kernel
theorem dX13_carriesAll_72 : decode cX13_carriesAll 72 = .ok (.getfield 31, 3) := by decide +kernel
theorem dX13_carriesAll_75 : decode cX13_carriesAll 75 = .ok (.invokevirtual 519, 3) := by decide +kernel
theorem dX13_carriesAll_78 : decode cX13_carriesAll 78 = .ok (.aload_n 0, 1) := by decide +kernel
theorem dX13_carriesAll_79 : decode cX13_carriesAll 79 = .ok (.aload_n 0, 1) := by decide +kernel
theorem dX13_carriesAll_80 : decode cX13_carriesAll 80 = .ok (.getfield 34, 3) := by decide +kernel
theorem dX13_carriesAll_83 : decode cX13_carriesAll 83 = .ok (.invokevirtual 519, 3) := by decide +kernel
theorem dX13_carriesAll_86 : decode cX13_carriesAll 86 = .ok (.aload_n 0, 1) := by decide +kernel
theorem dX13_carriesAll_87 : decode cX13_carriesAll 87 = .ok (.aload_n 0, 1) := by decide +kernel
theorem dX13_carriesAll_88 : decode cX13_carriesAll 88 = .ok (.getfield 37, 3) := by decide +kernel
theorem dX13_carriesAll_91 : decode cX13_carriesAll 91 = .ok (.invokevirtual 519, 3) := by decide +kernel
theorem dX13_carriesAll_94 : decode cX13_carriesAll 94 = .ok (.iload_n 1, 1) := by decide +kernel
theorem dX13_carriesAll_95 : decode cX13_carriesAll 95 = .ok (.iconst 4, 1) := by decide +kernel
theorem dX13_carriesAll_96 : decode cX13_carriesAll 96 = .ok (.if_icmp .ne 4, 3) := by decide +kernel
theorem dX13_carriesAll_99 : decode cX13_carriesAll 99 = .ok (.return_, 1) := by decide +kernel
theorem dX13_carriesAll_100 : decode cX13_carriesAll 100 = .ok (.aload_n 0, 1) := by decide +kernel
theorem dX13_carriesAll_101 : decode cX13_carriesAll 101 = .ok (.getfield 133, 3) := by decide +kernel
theorem dX13_carriesAll_104 : decode cX13_carriesAll 104 = .ok (.iconst 0, 1) := by decide +kernel
theorem dX13_carriesAll_105 : decode cX13_carriesAll 105 = .ok (.aload_n 0, 1) := by decide +kernel
theorem dX13_carriesAll_106 : decode cX13_carriesAll 106 = .ok (.getfield 331, 3) := by decide +kernel
theorem dX13_carriesAll_109 : decode cX13_carriesAll 109 = .ok (.iastore, 1) := by decide +kernel
theorem dX13_carriesAll_110 : decode cX13_carriesAll 110 = .ok (.aload_n 0, 1) := by decide +kernel
theorem dX13_carriesAll_111 : decode cX13_carriesAll 111 = .ok (.aload_n 0, 1) := by decide +kernel
theorem dX13_carriesAll_112 : decode cX13_carriesAll 112 = .ok (.getfield 133, 3) := by decide +kernel
theorem dX13_carriesAll_115 : decode cX13_carriesAll 115 = .ok (.invokevirtual 519, 3) := by decide +kernel
theorem dX13_carriesAll_118 : decode cX13_carriesAll 118 = .ok (.aload_n 0, 1) := by decide +kernel
theorem dX13_carriesAll_119 : decode cX13_carriesAll 119 = .ok (.aload_n 0, 1) := by decide +kernel
theorem dX13_carriesAll_120 : decode cX13_carriesAll 120 = .ok (.getfield 133, 3) := by decide +kernel
theorem dX13_carriesAll_123 : decode cX13_carriesAll 123 = .ok (.iconst 0, 1) := by decide +kernel
theorem dX13_carriesAll_124 : decode cX13_carriesAll 124 = .ok (.iaload, 1) := by decide +kernel
theorem dX13_carriesAll_125 : decode cX13_carriesAll 125 = .ok (.putfield 331, 3) := by decide +kernel
theorem dX13_carriesAll_128 : decode cX13_carriesAll 128 = .ok (.aload_n 0, 1) := by decide +kernel
theorem dX13_carriesAll_129 : decode cX13_carriesAll 129 = .ok (.aload_n 0, 1) := by decide +kernel
theorem dX13_carriesAll_130 : decode cX13_carriesAll 130 = .ok (.getfield 40, 3) := by decide +kernel
theorem dX13_carriesAll_133 : decode cX13_carriesAll 133 = .ok (.invokevirtual 519, 3) := by decide +kernel
theorem dX13_carriesAll_136 : decode cX13_carriesAll 136 = .ok (.aload_n 0, 1) := by decide +kernel
theorem dX13_carriesAll_137 : decode cX13_carriesAll 137 = .ok (.aload_n 0, 1) := by decide +kernel
theorem dX13_carriesAll_138 : decode cX13_carriesAll 138 = .ok (.getfield 43, 3) := by decide +kernel
theorem dX13_carriesAll_141 : decode cX13_carriesAll 141 = .ok (.invokevirtual 519, 3) := by decide +kernel
theorem dX13_carriesAll_144 : decode cX13_carriesAll 144 = .ok (.aload_n 0, 1) := by decide +kernel
theorem dX13_carriesAll_145 : decode cX13_carriesAll 145 = .ok (.aload_n 0, 1) := by decide +kernel
theorem dX13_carriesAll_146 : decode cX13_carriesAll 146 = .ok (.getfield 46, 3) := by decide +kernel
theorem dX13_carriesAll_149 : decode cX13_carriesAll 149 = .ok (.invokevirtual 519, 3) := by decide +kernel
theorem dX13_carriesAll_152 : decode cX13_carriesAll 152 = .ok (.aload_n 0, 1) := by decide +kernel
theorem dX13_carriesAll_153 : decode cX13_carriesAll 153 = .ok (.aload_n 0, 1) := by decide +kernel
theorem dX13_carriesAll_154 : decode cX13_carriesAll 154 = .ok (.getfield 49, 3) := by decide +kernel
theorem dX13_carriesAll_157 : decode cX13_carriesAll 157 = .ok (.invokevirtual 519, 3) := by decide +kernel
theorem dX13_carriesAll_160 : decode cX13_carriesAll 160 = .ok (.aload_n 0, 1) := by decide +kernel
theorem dX13_carriesAll_161 : decode cX13_carriesAll 161 = .ok (.aload_n 0, 1) := by decide +kernel
theorem dX13_carriesAll_162 : decode cX13_carriesAll 162 = .ok (.getfield 52, 3) := by decide +kernel
theorem dX13_carriesAll_165 : decode cX13_carriesAll 165 = .ok (.invokevirtual 519, 3) := by decide +kernel
theorem dX13_carriesAll_168 : decode cX13_carriesAll 168 = .ok (.aload_n 0, 1) := by decide +kernel
theorem dX13_carriesAll_169 : decode cX13_carriesAll 169 = .ok (.aload_n 0, 1) := by decide +kernel
theorem dX13_carriesAll_170 : decode cX13_carriesAll 170 = .ok (.getfield 55, 3) := by decide +kernel
theorem dX13_carriesAll_173 : decode cX13_carriesAll 173 = .ok (.invokevirtual 519, 3) := by decide +kernel
theorem dX13_carriesAll_176 : decode cX13_carriesAll 176 = .ok (.aload_n 0, 1) := by decide +kernel
theorem dX13_carriesAll_177 : decode cX13_carriesAll 177 = .ok (.aload_n 0, 1) := by decide +kernel
theorem dX13_carriesAll_178 : decode cX13_carriesAll 178 = .ok (.getfield 58, 3) := by decide +kernel
theorem dX13_carriesAll_181 : decode cX13_carriesAll 181 = .ok (.invokevirtual 519, 3) := by decide +kernel
theorem dX13_carriesAll_184 : decode cX13_carriesAll 184 = .ok (.aload_n 0, 1) := by decide +kernel
theorem dX13_carriesAll_185 : decode cX13_carriesAll 185 = .ok (.aload_n 0, 1) := by decide +kernel
theorem dX13_carriesAll_186 : decode cX13_carriesAll 186 = .ok (.getfield 61, 3) := by decide +kernel
theorem dX13_carriesAll_189 : decode cX13_carriesAll 189 = .ok (.invokevirtual 519, 3) := by decide +kernel
theorem dX13_carriesAll_192 : decode cX13_carriesAll 192 = .ok (.aload_n 0, 1) := by decide +kernel
theorem dX13_carriesAll_193 : decode cX13_carriesAll 193 = .ok (.aload_n 0, 1) := by decide +kernel
theorem dX13_carriesAll_194 : decode cX13_carriesAll 194 = .ok (.getfield 64, 3) := by decide +kernel
theorem dX13_carriesAll_197 : decode cX13_carriesAll 197 = .ok (.invokevirtual 519, 3) := by decide +kernel
theorem dX13_carriesAll_200 : decode cX13_carriesAll 200 = .ok (.aload_n 0, 1) := by decide +kernel
theorem dX13_carriesAll_201 : decode cX13_carriesAll 201 = .ok (.aload_n 0, 1) := by decide +kernel
theorem dX13_carriesAll_202 : decode cX13_carriesAll 202 = .ok (.getfield 130, 3) := by decide +kernel
theorem dX13_carriesAll_205 : decode cX13_carriesAll 205 = .ok (.invokevirtual 519, 3) := by decide +kernel
theorem dX13_carriesAll_208 : decode cX13_carriesAll 208 = .ok (.return_, 1) := by decide +kernel
theorem dX13_image_0 : decode cX13_image 0 = .ok (.iload_n 1, 1) := by decide +kernel
theorem dX13_image_1 : decode cX13_image 1 = .ok (.i2l, 1) := by decide +kernel
theorem dX13_image_2 : decode cX13_image 2 = .ok (.lconst 0, 1) := by decide +kernel
theorem dX13_image_3 : decode cX13_image 3 = .ok (.ldc2_w 446, 3) := by decide +kernel
theorem dX13_image_6 : decode cX13_image 6 = .ok (.invokestatic 161, 3) := by decide +kernel
theorem dX13_image_9 : decode cX13_image 9 = .ok (.ifCond .ne 5, 3) := by decide +kernel
theorem dX13_image_12 : decode cX13_image 12 = .ok (.iconst (-1), 1) := by decide +kernel
theorem dX13_image_13 : decode cX13_image 13 = .ok (.ireturn, 1) := by decide +kernel
theorem dX13_image_14 : decode cX13_image 14 = .ok (.aload_n 0, 1) := by decide +kernel
theorem dX13_image_15 : decode cX13_image 15 = .ok (.getfield 154, 3) := by decide +kernel
theorem dX13_image_18 : decode cX13_image 18 = .ok (.iload_n 1, 1) := by decide +kernel
theorem dX13_image_19 : decode cX13_image 19 = .ok (.iconst 1, 1) := by decide +kernel
theorem dX13_image_20 : decode cX13_image 20 = .ok (.bastore, 1) := by decide +kernel
theorem dX13_image_21 : decode cX13_image 21 = .ok (.aload_n 0, 1) := by decide +kernel
theorem dX13_image_22 : decode cX13_image 22 = .ok (.iload_n 1, 1) := by decide +kernel
theorem dX13_image_23 : decode cX13_image 23 = .ok (.iconst 0, 1) := by decide +kernel
theorem dX13_image_24 : decode cX13_image 24 = .ok (.invokevirtual 441, 3) := by decide +kernel
theorem dX13_image_27 : decode cX13_image 27 = .ok (.aload_n 0, 1) := by decide +kernel
theorem dX13_image_28 : decode cX13_image 28 = .ok (.getfield 9, 3) := by decide +kernel
theorem dX13_image_31 : decode cX13_image 31 = .ok (.iconst 4, 1) := by decide +kernel
theorem dX13_image_32 : decode cX13_image 32 = .ok (.iaload, 1) := by decide +kernel
theorem dX13_image_33 : decode cX13_image 33 = .ok (.ireturn, 1) := by decide +kernel
theorem dX13_back_0 : decode cX13_back 0 = .ok (.iload_n 1, 1) := by decide +kernel
theorem dX13_back_1 : decode cX13_back 1 = .ok (.i2l, 1) := by decide +kernel
theorem dX13_back_2 : decode cX13_back 2 = .ok (.lconst 0, 1) := by decide +kernel
theorem dX13_back_3 : decode cX13_back 3 = .ok (.ldc2_w 446, 3) := by decide +kernel
theorem dX13_back_6 : decode cX13_back 6 = .ok (.invokestatic 161, 3) := by decide +kernel
theorem dX13_back_9 : decode cX13_back 9 = .ok (.ifCond .eq 12, 3) := by decide +kernel
theorem dX13_back_12 : decode cX13_back 12 = .ok (.aload_n 0, 1) := by decide +kernel
theorem dX13_back_13 : decode cX13_back 13 = .ok (.getfield 154, 3) := by decide +kernel
theorem dX13_back_16 : decode cX13_back 16 = .ok (.iload_n 1, 1) := by decide +kernel
theorem dX13_back_17 : decode cX13_back 17 = .ok (.baload, 1) := by decide +kernel
theorem dX13_back_18 : decode cX13_back 18 = .ok (.ifCond .ne 5, 3) := by decide +kernel
theorem dX13_back_21 : decode cX13_back 21 = .ok (.iconst (-1), 1) := by decide +kernel
theorem dX13_back_22 : decode cX13_back 22 = .ok (.ireturn, 1) := by decide +kernel
theorem dX13_back_23 : decode cX13_back 23 = .ok (.aload_n 0, 1) := by decide +kernel
theorem dX13_back_24 : decode cX13_back 24 = .ok (.iload_n 1, 1) := by decide +kernel
theorem dX13_back_25 : decode cX13_back 25 = .ok (.iconst 1, 1) := by decide +kernel
theorem dX13_back_26 : decode cX13_back 26 = .ok (.invokevirtual 441, 3) := by decide +kernel
theorem dX13_back_29 : decode cX13_back 29 = .ok (.aload_n 0, 1) := by decide +kernel
theorem dX13_back_30 : decode cX13_back 30 = .ok (.getfield 9, 3) := by decide +kernel
theorem dX13_back_33 : decode cX13_back 33 = .ok (.iconst 4, 1) := by decide +kernel
theorem dX13_back_34 : decode cX13_back 34 = .ok (.iaload, 1) := by decide +kernel
theorem dX13_back_35 : decode cX13_back 35 = .ok (.ireturn, 1) := by decide +kernel
theorem dJ11_isValidCodePoint_9a6ad_0 : decode cJ11_isValidCodePoint_9a6ad 0 = .ok (.iload_n 0, 1) := by decide +kernel
theorem dJ11_isValidCodePoint_9a6ad_1 : decode cJ11_isValidCodePoint_9a6ad 1 = .ok (.bipush 16, 2) := by decide +kernel
theorem dJ11_isValidCodePoint_9a6ad_3 : decode cJ11_isValidCodePoint_9a6ad 3 = .ok (.iushr, 1) := by decide +kernel
theorem dJ11_isValidCodePoint_9a6ad_4 : decode cJ11_isValidCodePoint_9a6ad 4 = .ok (.istore_n 1, 1) := by decide +kernel
theorem dJ11_isValidCodePoint_9a6ad_5 : decode cJ11_isValidCodePoint_9a6ad 5 = .ok (.iload_n 1, 1) := by decide +kernel
theorem dJ11_isValidCodePoint_9a6ad_6 : decode cJ11_isValidCodePoint_9a6ad 6 = .ok (.bipush 17, 2) := by decide +kernel
theorem dJ11_isValidCodePoint_9a6ad_8 : decode cJ11_isValidCodePoint_9a6ad 8 = .ok (.if_icmp .ge 7, 3) := by decide +kernel
theorem dJ11_isValidCodePoint_9a6ad_11 : decode cJ11_isValidCodePoint_9a6ad 11 = .ok (.iconst 1, 1) := by decide +kernel
theorem dJ11_isValidCodePoint_9a6ad_12 : decode cJ11_isValidCodePoint_9a6ad 12 = .ok (.goto 4, 3) := by decide +kernel
theorem dJ11_isValidCodePoint_9a6ad_15 : decode cJ11_isValidCodePoint_9a6ad 15 = .ok (.iconst 0, 1) := by decide +kernel
theorem dJ11_isValidCodePoint_9a6ad_16 : decode cJ11_isValidCodePoint_9a6ad 16 = .ok (.ireturn, 1) := by decide +kernel
theorem dJ11_highSurrogate_5068e_0 : decode cJ11_highSurrogate_5068e 0 = .ok (.iload_n 0, 1) := by decide +kernel
theorem dJ11_highSurrogate_5068e_1 : decode cJ11_highSurrogate_5068e 1 = .ok (.bipush 10, 2) := by decide +kernel
theorem dJ11_highSurrogate_5068e_3 : decode cJ11_highSurrogate_5068e 3 = .ok (.iushr, 1) := by decide +kernel
theorem dJ11_highSurrogate_5068e_4 : decode cJ11_highSurrogate_5068e 4 = .ok (.ldc 110, 2) := by decide +kernel
theorem dJ11_highSurrogate_5068e_6 : decode cJ11_highSurrogate_5068e 6 = .ok (.iadd, 1) := by decide +kernel
theorem dJ11_highSurrogate_5068e_7 : decode cJ11_highSurrogate_5068e 7 = .ok (.i2c, 1) := by decide +kernel
theorem dJ11_highSurrogate_5068e_8 : decode cJ11_highSurrogate_5068e 8 = .ok (.ireturn, 1) := by decide +kernel
theorem dJ11_lowSurrogate_5068e_0 : decode cJ11_lowSurrogate_5068e 0 = .ok (.iload_n 0, 1) := by decide +kernel
theorem dJ11_lowSurrogate_5068e_1 : decode cJ11_lowSurrogate_5068e 1 = .ok (.sipush 1023, 3) := by decide +kernel
theorem dJ11_lowSurrogate_5068e_4 : decode cJ11_lowSurrogate_5068e 4 = .ok (.iand, 1) := by decide +kernel
theorem dJ11_lowSurrogate_5068e_5 : decode cJ11_lowSurrogate_5068e 5 = .ok (.ldc 76, 2) := by decide +kernel
theorem dJ11_lowSurrogate_5068e_7 : decode cJ11_lowSurrogate_5068e 7 = .ok (.iadd, 1) := by decide +kernel
theorem dJ11_lowSurrogate_5068e_8 : decode cJ11_lowSurrogate_5068e 8 = .ok (.i2c, 1) := by decide +kernel
theorem dJ11_lowSurrogate_5068e_9 : decode cJ11_lowSurrogate_5068e 9 = .ok (.ireturn, 1) := by decide +kernel
theorem dJ9_max_7cf53_0 : decode cJ9_max_7cf53 0 = .ok (.iload_n 0, 1) := by decide +kernel
theorem dJ9_max_7cf53_1 : decode cJ9_max_7cf53 1 = .ok (.iload_n 1, 1) := by decide +kernel
theorem dJ9_max_7cf53_2 : decode cJ9_max_7cf53 2 = .ok (.if_icmp .lt 7, 3) := by decide +kernel
theorem dJ9_max_7cf53_5 : decode cJ9_max_7cf53 5 = .ok (.iload_n 0, 1) := by decide +kernel
theorem dJ9_max_7cf53_6 : decode cJ9_max_7cf53 6 = .ok (.goto 4, 3) := by decide +kernel
theorem dJ9_max_7cf53_9 : decode cJ9_max_7cf53 9 = .ok (.iload_n 1, 1) := by decide +kernel
theorem dJ9_max_7cf53_10 : decode cJ9_max_7cf53 10 = .ok (.ireturn, 1) := by decide +kernel
theorem dJ9_min_7cf53_0 : decode cJ9_min_7cf53 0 = .ok (.iload_n 0, 1) := by decide +kernel
theorem dJ9_min_7cf53_1 : decode cJ9_min_7cf53 1 = .ok (.iload_n 1, 1) := by decide +kernel
theorem dJ9_min_7cf53_2 : decode cJ9_min_7cf53 2 = .ok (.if_icmp .gt 7, 3) := by decide +kernel
theorem dJ9_min_7cf53_5 : decode cJ9_min_7cf53 5 = .ok (.iload_n 0, 1) := by decide +kernel
theorem dJ9_min_7cf53_6 : decode cJ9_min_7cf53 6 = .ok (.goto 4, 3) := by decide +kernel
theorem dJ9_min_7cf53_9 : decode cJ9_min_7cf53 9 = .ok (.iload_n 1, 1) := by decide +kernel
theorem dJ9_min_7cf53_10 : decode cJ9_min_7cf53 10 = .ok (.ireturn, 1) := by decide +kernel
theorem dJ0_length_8abf5_0 : decode cJ0_length_8abf5 0 = .ok (.aload_n 0, 1) := by decide +kernel
theorem dJ0_length_8abf5_1 : decode cJ0_length_8abf5 1 = .ok (.getfield 9, 3) := by decide +kernel
theorem dJ0_length_8abf5_4 : decode cJ0_length_8abf5 4 = .ok (.arraylength, 1) := by decide +kernel
theorem dJ0_length_8abf5_5 : decode cJ0_length_8abf5 5 = .ok (.aload_n 0, 1) := by decide +kernel
theorem dJ0_length_8abf5_6 : decode cJ0_length_8abf5 6 = .ok (.invokevirtual 335, 3) := by decide +kernel
theorem dJ0_length_8abf5_9 : decode cJ0_length_8abf5 9 = .ok (.ishr, 1) := by decide +kernel
theorem dJ0_length_8abf5_10 : decode cJ0_length_8abf5 10 = .ok (.ireturn, 1) := by decide +kernel
theorem dJ0_charAt_5068e_0 : decode cJ0_charAt_5068e 0 = .ok (.aload_n 0, 1) := by decide +kernel
theorem dJ0_charAt_5068e_1 : decode cJ0_charAt_5068e 1 = .ok (.invokevirtual 492, 3) := by decide +kernel
theorem dJ0_charAt_5068e_4 : decode cJ0_charAt_5068e 4 = .ok (.ifCond .eq 12, 3) := by decide +kernel
theorem dJ0_charAt_5068e_7 : decode cJ0_charAt_5068e 7 = .ok (.aload_n 0, 1) := by decide +kernel
theorem dJ0_charAt_5068e_8 : decode cJ0_charAt_5068e 8 = .ok (.getfield 9, 3) := by decide +kernel
theorem dJ0_charAt_5068e_11 : decode cJ0_charAt_5068e 11 = .ok (.iload_n 1, 1) := by decide +kernel
theorem dJ0_charAt_5068e_12 : decode cJ0_charAt_5068e 12 = .ok (.invokestatic 495, 3) := by decide +kernel
theorem dJ0_charAt_5068e_15 : decode cJ0_charAt_5068e 15 = .ok (.ireturn, 1) := by decide +kernel
theorem dJ0_charAt_5068e_16 : decode cJ0_charAt_5068e 16 = .ok (.aload_n 0, 1) := by decide +kernel
theorem dJ0_charAt_5068e_17 : decode cJ0_charAt_5068e 17 = .ok (.getfield 9, 3) := by decide +kernel
theorem dJ0_charAt_5068e_20 : decode cJ0_charAt_5068e 20 = .ok (.iload_n 1, 1) := by decide +kernel
theorem dJ0_charAt_5068e_21 : decode cJ0_charAt_5068e 21 = .ok (.invokestatic 498, 3) := by decide +kernel
theorem dJ0_charAt_5068e_24 : decode cJ0_charAt_5068e 24 = .ok (.ireturn, 1) := by decide +kernel
theorem dJ0_indexOf_0f7a4_0 : decode cJ0_indexOf_0f7a4 0 = .ok (.aload_n 0, 1) := by decide +kernel
theorem dJ0_indexOf_0f7a4_1 : decode cJ0_indexOf_0f7a4 1 = .ok (.iload_n 1, 1) := by decide +kernel
theorem dJ0_indexOf_0f7a4_2 : decode cJ0_indexOf_0f7a4 2 = .ok (.iconst 0, 1) := by decide +kernel
theorem dJ0_indexOf_0f7a4_3 : decode cJ0_indexOf_0f7a4 3 = .ok (.invokevirtual 633, 3) := by decide +kernel
theorem dJ0_indexOf_0f7a4_6 : decode cJ0_indexOf_0f7a4 6 = .ok (.ireturn, 1) := by decide +kernel
theorem dJ0_indexOf_7cf53_0 : decode cJ0_indexOf_7cf53 0 = .ok (.aload_n 0, 1) := by decide +kernel
theorem dJ0_indexOf_7cf53_1 : decode cJ0_indexOf_7cf53 1 = .ok (.invokevirtual 492, 3) := by decide +kernel
theorem dJ0_indexOf_7cf53_4 : decode cJ0_indexOf_7cf53 4 = .ok (.ifCond .eq 19, 3) := by decide +kernel
theorem dJ0_indexOf_7cf53_7 : decode cJ0_indexOf_7cf53 7 = .ok (.aload_n 0, 1) := by decide +kernel
theorem dJ0_indexOf_7cf53_8 : decode cJ0_indexOf_7cf53 8 = .ok (.getfield 9, 3) := by decide +kernel
theorem dJ0_indexOf_7cf53_11 : decode cJ0_indexOf_7cf53 11 = .ok (.iload_n 1, 1) := by decide +kernel
theorem dJ0_indexOf_7cf53_12 : decode cJ0_indexOf_7cf53 12 = .ok (.iload_n 2, 1) := by decide +kernel
theorem dJ0_indexOf_7cf53_13 : decode cJ0_indexOf_7cf53 13 = .ok (.aload_n 0, 1) := by decide +kernel
theorem dJ0_indexOf_7cf53_14 : decode cJ0_indexOf_7cf53 14 = .ok (.invokevirtual 505, 3) := by decide +kernel
theorem dJ0_indexOf_7cf53_17 : decode cJ0_indexOf_7cf53 17 = .ok (.invokestatic 637, 3) := by decide +kernel
theorem dJ0_indexOf_7cf53_20 : decode cJ0_indexOf_7cf53 20 = .ok (.goto 16, 3) := by decide +kernel
theorem dJ0_indexOf_7cf53_23 : decode cJ0_indexOf_7cf53 23 = .ok (.aload_n 0, 1) := by decide +kernel
theorem dJ0_indexOf_7cf53_24 : decode cJ0_indexOf_7cf53 24 = .ok (.getfield 9, 3) := by decide +kernel
theorem dJ0_indexOf_7cf53_27 : decode cJ0_indexOf_7cf53 27 = .ok (.iload_n 1, 1) := by decide +kernel
theorem dJ0_indexOf_7cf53_28 : decode cJ0_indexOf_7cf53 28 = .ok (.iload_n 2, 1) := by decide +kernel
theorem dJ0_indexOf_7cf53_29 : decode cJ0_indexOf_7cf53 29 = .ok (.aload_n 0, 1) := by decide +kernel
theorem dJ0_indexOf_7cf53_30 : decode cJ0_indexOf_7cf53 30 = .ok (.invokevirtual 505, 3) := by decide +kernel
theorem dJ0_indexOf_7cf53_33 : decode cJ0_indexOf_7cf53 33 = .ok (.invokestatic 640, 3) := by decide +kernel
theorem dJ0_indexOf_7cf53_36 : decode cJ0_indexOf_7cf53 36 = .ok (.ireturn, 1) := by decide +kernel
theorem dJ0_coder_7d493_0 : decode cJ0_coder_7d493 0 = .ok (.getstatic 38, 3) := by decide +kernel
theorem dJ0_coder_7d493_3 : decode cJ0_coder_7d493 3 = .ok (.ifCond .eq 10, 3) := by decide +kernel
theorem dJ0_coder_7d493_6 : decode cJ0_coder_7d493 6 = .ok (.aload_n 0, 1) := by decide +kernel
theorem dJ0_coder_7d493_7 : decode cJ0_coder_7d493 7 = .ok (.getfield 15, 3) := by decide +kernel
theorem dJ0_coder_7d493_10 : decode cJ0_coder_7d493 10 = .ok (.goto 4, 3) := by decide +kernel
theorem dJ0_coder_7d493_13 : decode cJ0_coder_7d493 13 = .ok (.iconst 1, 1) := by decide +kernel
theorem dJ0_coder_7d493_14 : decode cJ0_coder_7d493 14 = .ok (.ireturn, 1) := by decide +kernel
theorem dJ0_isLatin1_aae02_0 : decode cJ0_isLatin1_aae02 0 = .ok (.getstatic 38, 3) := by decide +kernel
theorem dJ0_isLatin1_aae02_3 : decode cJ0_isLatin1_aae02 3 = .ok (.ifCond .eq 14, 3) := by decide +kernel
theorem dJ0_isLatin1_aae02_6 : decode cJ0_isLatin1_aae02 6 = .ok (.aload_n 0, 1) := by decide +kernel
theorem dJ0_isLatin1_aae02_7 : decode cJ0_isLatin1_aae02 7 = .ok (.getfield 15, 3) := by decide +kernel
theorem dJ0_isLatin1_aae02_10 : decode cJ0_isLatin1_aae02 10 = .ok (.ifCond .ne 7, 3) := by decide +kernel
theorem dJ0_isLatin1_aae02_13 : decode cJ0_isLatin1_aae02 13 = .ok (.iconst 1, 1) := by decide +kernel
theorem dJ0_isLatin1_aae02_14 : decode cJ0_isLatin1_aae02 14 = .ok (.goto 4, 3) := by decide +kernel
theorem dJ0_isLatin1_aae02_17 : decode cJ0_isLatin1_aae02 17 = .ok (.iconst 0, 1) := by decide +kernel
theorem dJ0_isLatin1_aae02_18 : decode cJ0_isLatin1_aae02 18 = .ok (.ireturn, 1) := by decide +kernel
theorem dJ0_checkIndex_df160_0 : decode cJ0_checkIndex_df160 0 = .ok (.iload_n 0, 1) := by decide +kernel
theorem dJ0_checkIndex_df160_1 : decode cJ0_checkIndex_df160 1 = .ok (.iload_n 1, 1) := by decide +kernel
theorem dJ0_checkIndex_df160_2 : decode cJ0_checkIndex_df160 2 = .ok (.getstatic 1053, 3) := by decide +kernel
theorem dJ0_checkIndex_df160_5 : decode cJ0_checkIndex_df160 5 = .ok (.invokestatic 1059, 3) := by decide +kernel
theorem dJ0_checkIndex_df160_8 : decode cJ0_checkIndex_df160 8 = .ok (.pop, 1) := by decide +kernel
theorem dJ0_checkIndex_df160_9 : decode cJ0_checkIndex_df160 9 = .ok (.return_, 1) := by decide +kernel
theorem dJ0_checkBoundsBeginEnd_23922_0 : decode cJ0_checkBoundsBeginEnd_23922 0 = .ok (.iload_n 0, 1) := by decide +kernel
theorem dJ0_checkBoundsBeginEnd_23922_1 : decode cJ0_checkBoundsBeginEnd_23922 1 = .ok (.iload_n 1, 1) := by decide +kernel
theorem dJ0_checkBoundsBeginEnd_23922_2 : decode cJ0_checkBoundsBeginEnd_23922 2 = .ok (.iload_n 2, 1) := by decide +kernel
theorem dJ0_checkBoundsBeginEnd_23922_3 : decode cJ0_checkBoundsBeginEnd_23922 3 = .ok (.getstatic 1053, 3) := by decide +kernel
theorem dJ0_checkBoundsBeginEnd_23922_6 : decode cJ0_checkBoundsBeginEnd_23922 6 = .ok (.invokestatic 1062, 3) := by decide +kernel
theorem dJ0_checkBoundsBeginEnd_23922_9 : decode cJ0_checkBoundsBeginEnd_23922 9 = .ok (.pop, 1) := by decide +kernel
theorem dJ0_checkBoundsBeginEnd_23922_10 : decode cJ0_checkBoundsBeginEnd_23922 10 = .ok (.return_, 1) := by decide +kernel
theorem dJ1_charAt_3b067_0 : decode cJ1_charAt_3b067 0 = .ok (.iload_n 1, 1) := by decide +kernel
theorem dJ1_charAt_3b067_1 : decode cJ1_charAt_3b067 1 = .ok (.aload_n 0, 1) := by decide +kernel
theorem dJ1_charAt_3b067_2 : decode cJ1_charAt_3b067 2 = .ok (.arraylength, 1) := by decide +kernel
theorem dJ1_charAt_3b067_3 : decode cJ1_charAt_3b067 3 = .ok (.invokestatic 9, 3) := by decide +kernel
theorem dJ1_charAt_3b067_6 : decode cJ1_charAt_3b067 6 = .ok (.aload_n 0, 1) := by decide +kernel
theorem dJ1_charAt_3b067_7 : decode cJ1_charAt_3b067 7 = .ok (.iload_n 1, 1) := by decide +kernel
theorem dJ1_charAt_3b067_8 : decode cJ1_charAt_3b067 8 = .ok (.baload, 1) := by decide +kernel
theorem dJ1_charAt_3b067_9 : decode cJ1_charAt_3b067 9 = .ok (.sipush 255, 3) := by decide +kernel
theorem dJ1_charAt_3b067_12 : decode cJ1_charAt_3b067 12 = .ok (.iand, 1) := by decide +kernel
theorem dJ1_charAt_3b067_13 : decode cJ1_charAt_3b067 13 = .ok (.i2c, 1) := by decide +kernel
theorem dJ1_charAt_3b067_14 : decode cJ1_charAt_3b067 14 = .ok (.ireturn, 1) := by decide +kernel
theorem dJ1_canEncode_9a6ad_0 : decode cJ1_canEncode_9a6ad 0 = .ok (.iload_n 0, 1) := by decide +kernel
theorem dJ1_canEncode_9a6ad_1 : decode cJ1_canEncode_9a6ad 1 = .ok (.ifCond .lt 14, 3) := by decide +kernel
theorem dJ1_canEncode_9a6ad_4 : decode cJ1_canEncode_9a6ad 4 = .ok (.iload_n 0, 1) := by decide +kernel
theorem dJ1_canEncode_9a6ad_5 : decode cJ1_canEncode_9a6ad 5 = .ok (.sipush 255, 3) := by decide +kernel
theorem dJ1_canEncode_9a6ad_8 : decode cJ1_canEncode_9a6ad 8 = .ok (.if_icmp .gt 7, 3) := by decide +kernel
theorem dJ1_canEncode_9a6ad_11 : decode cJ1_canEncode_9a6ad 11 = .ok (.iconst 1, 1) := by decide +kernel
theorem dJ1_canEncode_9a6ad_12 : decode cJ1_canEncode_9a6ad 12 = .ok (.goto 4, 3) := by decide +kernel
theorem dJ1_canEncode_9a6ad_15 : decode cJ1_canEncode_9a6ad 15 = .ok (.iconst 0, 1) := by decide +kernel
theorem dJ1_canEncode_9a6ad_16 : decode cJ1_canEncode_9a6ad 16 = .ok (.ireturn, 1) := by decide +kernel
theorem dJ1_indexOf_4cfef_0 : decode cJ1_indexOf_4cfef 0 = .ok (.iload_n 1, 1) := by decide +kernel
theorem dJ1_indexOf_4cfef_1 : decode cJ1_indexOf_4cfef 1 = .ok (.invokestatic 88, 3) := by decide +kernel
theorem dJ1_indexOf_4cfef_4 : decode cJ1_indexOf_4cfef 4 = .ok (.ifCond .ne 5, 3) := by decide +kernel
theorem dJ1_indexOf_4cfef_7 : decode cJ1_indexOf_4cfef 7 = .ok (.iconst (-1), 1) := by decide +kernel
theorem dJ1_indexOf_4cfef_8 : decode cJ1_indexOf_4cfef 8 = .ok (.ireturn, 1) := by decide +kernel
theorem dJ1_indexOf_4cfef_9 : decode cJ1_indexOf_4cfef 9 = .ok (.iload_n 2, 1) := by decide +kernel
theorem dJ1_indexOf_4cfef_10 : decode cJ1_indexOf_4cfef 10 = .ok (.iconst 0, 1) := by decide +kernel
theorem dJ1_indexOf_4cfef_11 : decode cJ1_indexOf_4cfef 11 = .ok (.invokestatic 92, 3) := by decide +kernel
theorem dJ1_indexOf_4cfef_14 : decode cJ1_indexOf_4cfef 14 = .ok (.istore_n 2, 1) := by decide +kernel
theorem dJ1_indexOf_4cfef_15 : decode cJ1_indexOf_4cfef 15 = .ok (.iload_n 3, 1) := by decide +kernel
theorem dJ1_indexOf_4cfef_16 : decode cJ1_indexOf_4cfef 16 = .ok (.aload_n 0, 1) := by decide +kernel
theorem dJ1_indexOf_4cfef_17 : decode cJ1_indexOf_4cfef 17 = .ok (.arraylength, 1) := by decide +kernel
theorem dJ1_indexOf_4cfef_18 : decode cJ1_indexOf_4cfef 18 = .ok (.invokestatic 38, 3) := by decide +kernel
theorem dJ1_indexOf_4cfef_21 : decode cJ1_indexOf_4cfef 21 = .ok (.istore_n 3, 1) := by decide +kernel
theorem dJ1_indexOf_4cfef_22 : decode cJ1_indexOf_4cfef 22 = .ok (.iload_n 2, 1) := by decide +kernel
theorem dJ1_indexOf_4cfef_23 : decode cJ1_indexOf_4cfef 23 = .ok (.iload_n 3, 1) := by decide +kernel
theorem dJ1_indexOf_4cfef_24 : decode cJ1_indexOf_4cfef 24 = .ok (.if_icmp .lt 5, 3) := by decide +kernel
theorem dJ1_indexOf_4cfef_27 : decode cJ1_indexOf_4cfef 27 = .ok (.iconst (-1), 1) := by decide +kernel
theorem dJ1_indexOf_4cfef_28 : decode cJ1_indexOf_4cfef 28 = .ok (.ireturn, 1) := by decide +kernel
theorem dJ1_indexOf_4cfef_29 : decode cJ1_indexOf_4cfef 29 = .ok (.aload_n 0, 1) := by decide +kernel
theorem dJ1_indexOf_4cfef_30 : decode cJ1_indexOf_4cfef 30 = .ok (.iload_n 1, 1) := by decide +kernel
theorem dJ1_indexOf_4cfef_31 : decode cJ1_indexOf_4cfef 31 = .ok (.iload_n 2, 1) := by decide +kernel
theorem dJ1_indexOf_4cfef_32 : decode cJ1_indexOf_4cfef 32 = .ok (.iload_n 3, 1) := by decide +kernel
theorem dJ1_indexOf_4cfef_33 : decode cJ1_indexOf_4cfef 33 = .ok (.invokestatic 95, 3) := by decide +kernel
theorem dJ1_indexOf_4cfef_36 : decode cJ1_indexOf_4cfef 36 = .ok (.ireturn, 1) := by decide +kernel
theorem dJ1_indexOfChar_4cfef_0 : decode cJ1_indexOfChar_4cfef 0 = .ok (.iload_n 1, 1) := by decide +kernel
theorem dJ1_indexOfChar_4cfef_1 : decode cJ1_indexOfChar_4cfef 1 = .ok (.i2b, 1) := by decide +kernel
theorem dJ1_indexOfChar_4cfef_2 : decode cJ1_indexOfChar_4cfef 2 = .ok (.istore 4, 2) := by decide +kernel
theorem dJ1_indexOfChar_4cfef_4 : decode cJ1_indexOfChar_4cfef 4 = .ok (.iload_n 2, 1) := by decide +kernel
theorem dJ1_indexOfChar_4cfef_5 : decode cJ1_indexOfChar_4cfef 5 = .ok (.istore 5, 2) := by decide +kernel
theorem dJ1_indexOfChar_4cfef_7 : decode cJ1_indexOfChar_4cfef 7 = .ok (.iload 5, 2) := by decide +kernel
theorem dJ1_indexOfChar_4cfef_9 : decode cJ1_indexOfChar_4cfef 9 = .ok (.iload_n 3, 1) := by decide +kernel
theorem dJ1_indexOfChar_4cfef_10 : decode cJ1_indexOfChar_4cfef 10 = .ok (.if_icmp .ge 21, 3) := by decide +kernel
theorem dJ1_indexOfChar_4cfef_13 : decode cJ1_indexOfChar_4cfef 13 = .ok (.aload_n 0, 1) := by decide +kernel
theorem dJ1_indexOfChar_4cfef_14 : decode cJ1_indexOfChar_4cfef 14 = .ok (.iload 5, 2) := by decide +kernel
theorem dJ1_indexOfChar_4cfef_16 : decode cJ1_indexOfChar_4cfef 16 = .ok (.baload, 1) := by decide +kernel
theorem dJ1_indexOfChar_4cfef_17 : decode cJ1_indexOfChar_4cfef 17 = .ok (.iload 4, 2) := by decide +kernel
theorem dJ1_indexOfChar_4cfef_19 : decode cJ1_indexOfChar_4cfef 19 = .ok (.if_icmp .ne 6, 3) := by decide +kernel
theorem dJ1_indexOfChar_4cfef_22 : decode cJ1_indexOfChar_4cfef 22 = .ok (.iload 5, 2) := by decide +kernel
theorem dJ1_indexOfChar_4cfef_24 : decode cJ1_indexOfChar_4cfef 24 = .ok (.ireturn, 1) := by decide +kernel
theorem dJ1_indexOfChar_4cfef_25 : decode cJ1_indexOfChar_4cfef 25 = .ok (.iinc 5 1, 3) := by decide +kernel
theorem dJ1_indexOfChar_4cfef_28 : decode cJ1_indexOfChar_4cfef 28 = .ok (.goto (-21), 3) := by decide +kernel
theorem dJ1_indexOfChar_4cfef_31 : decode cJ1_indexOfChar_4cfef 31 = .ok (.iconst (-1), 1) := by decide +kernel
theorem dJ1_indexOfChar_4cfef_32 : decode cJ1_indexOfChar_4cfef 32 = .ok (.ireturn, 1) := by decide +kernel
theorem dJ2_getChar_3b067_0 : decode cJ2_getChar_3b067 0 = .ok (.getstatic 44, 3) := by decide +kernel
theorem dJ2_getChar_3b067_3 : decode cJ2_getChar_3b067 3 = .ok (.ifCond .ne 25, 3) := by decide +kernel
theorem dJ2_getChar_3b067_6 : decode cJ2_getChar_3b067 6 = .ok (.iload_n 1, 1) := by decide +kernel
theorem dJ2_getChar_3b067_7 : decode cJ2_getChar_3b067 7 = .ok (.ifCond .lt 11, 3) := by decide +kernel
theorem dJ2_getChar_3b067_10 : decode cJ2_getChar_3b067 10 = .ok (.iload_n 1, 1) := by decide +kernel
theorem dJ2_getChar_3b067_11 : decode cJ2_getChar_3b067 11 = .ok (.aload_n 0, 1) := by decide +kernel
theorem dJ2_getChar_3b067_12 : decode cJ2_getChar_3b067 12 = .ok (.invokestatic 48, 3) := by decide +kernel
theorem dJ2_getChar_3b067_15 : decode cJ2_getChar_3b067 15 = .ok (.if_icmp .lt 13, 3) := by decide +kernel
theorem dJ2_getChar_3b067_18 : decode cJ2_getChar_3b067 18 = .ok (.new 52, 3) := by decide +kernel
theorem dJ2_getChar_3b067_21 : decode cJ2_getChar_3b067 21 = .ok (.dup, 1) := by decide +kernel
theorem dJ2_getChar_3b067_22 : decode cJ2_getChar_3b067 22 = .ok (.ldc 54, 2) := by decide +kernel
theorem dJ2_getChar_3b067_24 : decode cJ2_getChar_3b067 24 = .ok (.invokespecial 56, 3) := by decide +kernel
theorem dJ2_getChar_3b067_27 : decode cJ2_getChar_3b067 27 = .ok (.athrow, 1) := by decide +kernel
theorem dJ2_getChar_3b067_28 : decode cJ2_getChar_3b067 28 = .ok (.iload_n 1, 1) := by decide +kernel
theorem dJ2_getChar_3b067_29 : decode cJ2_getChar_3b067 29 = .ok (.iconst 1, 1) := by decide +kernel
theorem dJ2_getChar_3b067_30 : decode cJ2_getChar_3b067 30 = .ok (.ishl, 1) := by decide +kernel
theorem dJ2_getChar_3b067_31 : decode cJ2_getChar_3b067 31 = .ok (.istore_n 1, 1) := by decide +kernel
theorem dJ2_getChar_3b067_32 : decode cJ2_getChar_3b067 32 = .ok (.aload_n 0, 1) := by decide +kernel
theorem dJ2_getChar_3b067_33 : decode cJ2_getChar_3b067 33 = .ok (.iload_n 1, 1) := by decide +kernel
theorem dJ2_getChar_3b067_34 : decode cJ2_getChar_3b067 34 = .ok (.iinc 1 1, 3) := by decide +kernel
theorem dJ2_getChar_3b067_37 : decode cJ2_getChar_3b067 37 = .ok (.baload, 1) := by decide +kernel
theorem dJ2_getChar_3b067_38 : decode cJ2_getChar_3b067 38 = .ok (.sipush 255, 3) := by decide +kernel
theorem dJ2_getChar_3b067_41 : decode cJ2_getChar_3b067 41 = .ok (.iand, 1) := by decide +kernel
theorem dJ2_getChar_3b067_42 : decode cJ2_getChar_3b067 42 = .ok (.getstatic 59, 3) := by decide +kernel
theorem dJ2_getChar_3b067_45 : decode cJ2_getChar_3b067 45 = .ok (.ishl, 1) := by decide +kernel
theorem dJ2_getChar_3b067_46 : decode cJ2_getChar_3b067 46 = .ok (.aload_n 0, 1) := by decide +kernel
theorem dJ2_getChar_3b067_47 : decode cJ2_getChar_3b067 47 = .ok (.iload_n 1, 1) := by decide +kernel
theorem dJ2_getChar_3b067_48 : decode cJ2_getChar_3b067 48 = .ok (.baload, 1) := by decide +kernel
theorem dJ2_getChar_3b067_49 : decode cJ2_getChar_3b067 49 = .ok (.sipush 255, 3) := by decide +kernel
theorem dJ2_getChar_3b067_52 : decode cJ2_getChar_3b067 52 = .ok (.iand, 1) := by decide +kernel
theorem dJ2_getChar_3b067_53 : decode cJ2_getChar_3b067 53 = .ok (.getstatic 63, 3) := by decide +kernel
theorem dJ2_getChar_3b067_56 : decode cJ2_getChar_3b067 56 = .ok (.ishl, 1) := by decide +kernel
theorem dJ2_getChar_3b067_57 : decode cJ2_getChar_3b067 57 = .ok (.ior, 1) := by decide +kernel
theorem dJ2_getChar_3b067_58 : decode cJ2_getChar_3b067 58 = .ok (.i2c, 1) := by decide +kernel
theorem dJ2_getChar_3b067_59 : decode cJ2_getChar_3b067 59 = .ok (.ireturn, 1) := by decide +kernel
theorem dJ2_length_9d52b_0 : decode cJ2_length_9d52b 0 = .ok (.aload_n 0, 1) := by decide +kernel
theorem dJ2_length_9d52b_1 : decode cJ2_length_9d52b 1 = .ok (.arraylength, 1) := by decide +kernel
theorem dJ2_length_9d52b_2 : decode cJ2_length_9d52b 2 = .ok (.iconst 1, 1) := by decide +kernel
theorem dJ2_length_9d52b_3 : decode cJ2_length_9d52b 3 = .ok (.ishr, 1) := by decide +kernel
theorem dJ2_length_9d52b_4 : decode cJ2_length_9d52b 4 = .ok (.ireturn, 1) := by decide +kernel
theorem dJ2_indexOf_4cfef_0 : decode cJ2_indexOf_4cfef 0 = .ok (.iload_n 2, 1) := by decide +kernel
theorem dJ2_indexOf_4cfef_1 : decode cJ2_indexOf_4cfef 1 = .ok (.iconst 0, 1) := by decide +kernel
theorem dJ2_indexOf_4cfef_2 : decode cJ2_indexOf_4cfef 2 = .ok (.invokestatic 224, 3) := by decide +kernel
theorem dJ2_indexOf_4cfef_5 : decode cJ2_indexOf_4cfef 5 = .ok (.istore_n 2, 1) := by decide +kernel
theorem dJ2_indexOf_4cfef_6 : decode cJ2_indexOf_4cfef 6 = .ok (.iload_n 3, 1) := by decide +kernel
theorem dJ2_indexOf_4cfef_7 : decode cJ2_indexOf_4cfef 7 = .ok (.aload_n 0, 1) := by decide +kernel
theorem dJ2_indexOf_4cfef_8 : decode cJ2_indexOf_4cfef 8 = .ok (.arraylength, 1) := by decide +kernel
theorem dJ2_indexOf_4cfef_9 : decode cJ2_indexOf_4cfef 9 = .ok (.iconst 1, 1) := by decide +kernel
theorem dJ2_indexOf_4cfef_10 : decode cJ2_indexOf_4cfef 10 = .ok (.ishr, 1) := by decide +kernel
theorem dJ2_indexOf_4cfef_11 : decode cJ2_indexOf_4cfef 11 = .ok (.invokestatic 183, 3) := by decide +kernel
theorem dJ2_indexOf_4cfef_14 : decode cJ2_indexOf_4cfef 14 = .ok (.istore_n 3, 1) := by decide +kernel
theorem dJ2_indexOf_4cfef_15 : decode cJ2_indexOf_4cfef 15 = .ok (.iload_n 2, 1) := by decide +kernel
theorem dJ2_indexOf_4cfef_16 : decode cJ2_indexOf_4cfef 16 = .ok (.iload_n 3, 1) := by decide +kernel
theorem dJ2_indexOf_4cfef_17 : decode cJ2_indexOf_4cfef 17 = .ok (.if_icmp .lt 5, 3) := by decide +kernel
theorem dJ2_indexOf_4cfef_20 : decode cJ2_indexOf_4cfef 20 = .ok (.iconst (-1), 1) := by decide +kernel
theorem dJ2_indexOf_4cfef_21 : decode cJ2_indexOf_4cfef 21 = .ok (.ireturn, 1) := by decide +kernel
theorem dJ2_indexOf_4cfef_22 : decode cJ2_indexOf_4cfef 22 = .ok (.iload_n 1, 1) := by decide +kernel
theorem dJ2_indexOf_4cfef_23 : decode cJ2_indexOf_4cfef 23 = .ok (.ldc 227, 2) := by decide +kernel
theorem dJ2_indexOf_4cfef_25 : decode cJ2_indexOf_4cfef 25 = .ok (.if_icmp .ge 11, 3) := by decide +kernel
theorem dJ2_indexOf_4cfef_28 : decode cJ2_indexOf_4cfef 28 = .ok (.aload_n 0, 1) := by decide +kernel
theorem dJ2_indexOf_4cfef_29 : decode cJ2_indexOf_4cfef 29 = .ok (.iload_n 1, 1) := by decide +kernel
theorem dJ2_indexOf_4cfef_30 : decode cJ2_indexOf_4cfef 30 = .ok (.iload_n 2, 1) := by decide +kernel
theorem dJ2_indexOf_4cfef_31 : decode cJ2_indexOf_4cfef 31 = .ok (.iload_n 3, 1) := by decide +kernel
theorem dJ2_indexOf_4cfef_32 : decode cJ2_indexOf_4cfef 32 = .ok (.invokestatic 228, 3) := by decide +kernel
theorem dJ2_indexOf_4cfef_35 : decode cJ2_indexOf_4cfef 35 = .ok (.ireturn, 1) := by decide +kernel
theorem dJ2_indexOf_4cfef_36 : decode cJ2_indexOf_4cfef 36 = .ok (.aload_n 0, 1) := by decide +kernel
theorem dJ2_indexOf_4cfef_37 : decode cJ2_indexOf_4cfef 37 = .ok (.iload_n 1, 1) := by decide +kernel
theorem dJ2_indexOf_4cfef_38 : decode cJ2_indexOf_4cfef 38 = .ok (.iload_n 2, 1) := by decide +kernel
theorem dJ2_indexOf_4cfef_39 : decode cJ2_indexOf_4cfef 39 = .ok (.iload_n 3, 1) := by decide +kernel
theorem dJ2_indexOf_4cfef_40 : decode cJ2_indexOf_4cfef 40 = .ok (.invokestatic 232, 3) := by decide +kernel
theorem dJ2_indexOf_4cfef_43 : decode cJ2_indexOf_4cfef 43 = .ok (.ireturn, 1) := by decide +kernel
theorem dJ2_indexOfChar_4cfef_0 : decode cJ2_indexOfChar_4cfef 0 = .ok (.iload_n 2, 1) := by decide +kernel
theorem dJ2_indexOfChar_4cfef_1 : decode cJ2_indexOfChar_4cfef 1 = .ok (.iload_n 3, 1) := by decide +kernel
theorem dJ2_indexOfChar_4cfef_2 : decode cJ2_indexOfChar_4cfef 2 = .ok (.aload_n 0, 1) := by decide +kernel
theorem dJ2_indexOfChar_4cfef_3 : decode cJ2_indexOfChar_4cfef 3 = .ok (.invokestatic 96, 3) := by decide +kernel
theorem dJ2_indexOfChar_4cfef_6 : decode cJ2_indexOfChar_4cfef 6 = .ok (.aload_n 0, 1) := by decide +kernel
theorem dJ2_indexOfChar_4cfef_7 : decode cJ2_indexOfChar_4cfef 7 = .ok (.iload_n 1, 1) := by decide +kernel
theorem dJ2_indexOfChar_4cfef_8 : decode cJ2_indexOfChar_4cfef 8 = .ok (.iload_n 2, 1) := by decide +kernel
theorem dJ2_indexOfChar_4cfef_9 : decode cJ2_indexOfChar_4cfef 9 = .ok (.iload_n 3, 1) := by decide +kernel
theorem dJ2_indexOfChar_4cfef_10 : decode cJ2_indexOfChar_4cfef 10 = .ok (.invokestatic 244, 3) := by decide +kernel
theorem dJ2_indexOfChar_4cfef_13 : decode cJ2_indexOfChar_4cfef 13 = .ok (.ireturn, 1) := by decide +kernel
theorem dJ2_indexOfCharUnsafe_4cfef_0 : decode cJ2_indexOfCharUnsafe_4cfef 0 = .ok (.iload_n 2, 1) := by decide +kernel
theorem dJ2_indexOfCharUnsafe_4cfef_1 : decode cJ2_indexOfCharUnsafe_4cfef 1 = .ok (.istore 4, 2) := by decide +kernel
theorem dJ2_indexOfCharUnsafe_4cfef_3 : decode cJ2_indexOfCharUnsafe_4cfef 3 = .ok (.iload 4, 2) := by decide +kernel
theorem dJ2_indexOfCharUnsafe_4cfef_5 : decode cJ2_indexOfCharUnsafe_4cfef 5 = .ok (.iload_n 3, 1) := by decide +kernel
theorem dJ2_indexOfCharUnsafe_4cfef_6 : decode cJ2_indexOfCharUnsafe_4cfef 6 = .ok (.if_icmp .ge 22, 3) := by decide +kernel
theorem dJ2_indexOfCharUnsafe_4cfef_9 : decode cJ2_indexOfCharUnsafe_4cfef 9 = .ok (.aload_n 0, 1) := by decide +kernel
theorem dJ2_indexOfCharUnsafe_4cfef_10 : decode cJ2_indexOfCharUnsafe_4cfef 10 = .ok (.iload 4, 2) := by decide +kernel
theorem dJ2_indexOfCharUnsafe_4cfef_12 : decode cJ2_indexOfCharUnsafe_4cfef 12 = .ok (.invokestatic 71, 3) := by decide +kernel
theorem dJ2_indexOfCharUnsafe_4cfef_15 : decode cJ2_indexOfCharUnsafe_4cfef 15 = .ok (.iload_n 1, 1) := by decide +kernel
theorem dJ2_indexOfCharUnsafe_4cfef_16 : decode cJ2_indexOfCharUnsafe_4cfef 16 = .ok (.if_icmp .ne 6, 3) := by decide +kernel
theorem dJ2_indexOfCharUnsafe_4cfef_19 : decode cJ2_indexOfCharUnsafe_4cfef 19 = .ok (.iload 4, 2) := by decide +kernel
theorem dJ2_indexOfCharUnsafe_4cfef_21 : decode cJ2_indexOfCharUnsafe_4cfef 21 = .ok (.ireturn, 1) := by decide +kernel
theorem dJ2_indexOfCharUnsafe_4cfef_22 : decode cJ2_indexOfCharUnsafe_4cfef 22 = .ok (.iinc 4 1, 3) := by decide +kernel
theorem dJ2_indexOfCharUnsafe_4cfef_25 : decode cJ2_indexOfCharUnsafe_4cfef 25 = .ok (.goto (-22), 3) := by decide +kernel
theorem dJ2_indexOfCharUnsafe_4cfef_28 : decode cJ2_indexOfCharUnsafe_4cfef 28 = .ok (.iconst (-1), 1) := by decide +kernel
theorem dJ2_indexOfCharUnsafe_4cfef_29 : decode cJ2_indexOfCharUnsafe_4cfef 29 = .ok (.ireturn, 1) := by decide +kernel
theorem dJ2_indexOfSupplementary_4cfef_0 : decode cJ2_indexOfSupplementary_4cfef 0 = .ok (.iload_n 1, 1) := by decide +kernel
theorem dJ2_indexOfSupplementary_4cfef_1 : decode cJ2_indexOfSupplementary_4cfef 1 = .ok (.invokestatic 164, 3) := by decide +kernel
theorem dJ2_indexOfSupplementary_4cfef_4 : decode cJ2_indexOfSupplementary_4cfef 4 = .ok (.ifCond .eq 65, 3) := by decide +kernel
theorem dJ2_indexOfSupplementary_4cfef_7 : decode cJ2_indexOfSupplementary_4cfef 7 = .ok (.iload_n 1, 1) := by decide +kernel
theorem dJ2_indexOfSupplementary_4cfef_8 : decode cJ2_indexOfSupplementary_4cfef 8 = .ok (.invokestatic 157, 3) := by decide +kernel
theorem dJ2_indexOfSupplementary_4cfef_11 : decode cJ2_indexOfSupplementary_4cfef 11 = .ok (.istore 4, 2) := by decide +kernel
theorem dJ2_indexOfSupplementary_4cfef_13 : decode cJ2_indexOfSupplementary_4cfef 13 = .ok (.iload_n 1, 1) := by decide +kernel
theorem dJ2_indexOfSupplementary_4cfef_14 : decode cJ2_indexOfSupplementary_4cfef 14 = .ok (.invokestatic 161, 3) := by decide +kernel
theorem dJ2_indexOfSupplementary_4cfef_17 : decode cJ2_indexOfSupplementary_4cfef 17 = .ok (.istore 5, 2) := by decide +kernel
theorem dJ2_indexOfSupplementary_4cfef_19 : decode cJ2_indexOfSupplementary_4cfef 19 = .ok (.iload_n 2, 1) := by decide +kernel
theorem dJ2_indexOfSupplementary_4cfef_20 : decode cJ2_indexOfSupplementary_4cfef 20 = .ok (.iload_n 3, 1) := by decide +kernel
theorem dJ2_indexOfSupplementary_4cfef_21 : decode cJ2_indexOfSupplementary_4cfef 21 = .ok (.aload_n 0, 1) := by decide +kernel
theorem dJ2_indexOfSupplementary_4cfef_22 : decode cJ2_indexOfSupplementary_4cfef 22 = .ok (.invokestatic 96, 3) := by decide +kernel
theorem dJ2_indexOfSupplementary_4cfef_25 : decode cJ2_indexOfSupplementary_4cfef 25 = .ok (.iload_n 2, 1) := by decide +kernel
theorem dJ2_indexOfSupplementary_4cfef_26 : decode cJ2_indexOfSupplementary_4cfef 26 = .ok (.istore 6, 2) := by decide +kernel
theorem dJ2_indexOfSupplementary_4cfef_28 : decode cJ2_indexOfSupplementary_4cfef 28 = .ok (.iload 6, 2) := by decide +kernel
theorem dJ2_indexOfSupplementary_4cfef_30 : decode cJ2_indexOfSupplementary_4cfef 30 = .ok (.iload_n 3, 1) := by decide +kernel
theorem dJ2_indexOfSupplementary_4cfef_31 : decode cJ2_indexOfSupplementary_4cfef 31 = .ok (.iconst 1, 1) := by decide +kernel
theorem dJ2_indexOfSupplementary_4cfef_32 : decode cJ2_indexOfSupplementary_4cfef 32 = .ok (.isub, 1) := by decide +kernel
theorem dJ2_indexOfSupplementary_4cfef_33 : decode cJ2_indexOfSupplementary_4cfef 33 = .ok (.if_icmp .ge 36, 3) := by decide +kernel
theorem dJ2_indexOfSupplementary_4cfef_36 : decode cJ2_indexOfSupplementary_4cfef 36 = .ok (.aload_n 0, 1) := by decide +kernel
theorem dJ2_indexOfSupplementary_4cfef_37 : decode cJ2_indexOfSupplementary_4cfef 37 = .ok (.iload 6, 2) := by decide +kernel
theorem dJ2_indexOfSupplementary_4cfef_39 : decode cJ2_indexOfSupplementary_4cfef 39 = .ok (.invokestatic 71, 3) := by decide +kernel
theorem dJ2_indexOfSupplementary_4cfef_42 : decode cJ2_indexOfSupplementary_4cfef 42 = .ok (.iload 4, 2) := by decide +kernel
theorem dJ2_indexOfSupplementary_4cfef_44 : decode cJ2_indexOfSupplementary_4cfef 44 = .ok (.if_icmp .ne 19, 3) := by decide +kernel
theorem dJ2_indexOfSupplementary_4cfef_47 : decode cJ2_indexOfSupplementary_4cfef 47 = .ok (.aload_n 0, 1) := by decide +kernel
theorem dJ2_indexOfSupplementary_4cfef_48 : decode cJ2_indexOfSupplementary_4cfef 48 = .ok (.iload 6, 2) := by decide +kernel
theorem dJ2_indexOfSupplementary_4cfef_50 : decode cJ2_indexOfSupplementary_4cfef 50 = .ok (.iconst 1, 1) := by decide +kernel
theorem dJ2_indexOfSupplementary_4cfef_51 : decode cJ2_indexOfSupplementary_4cfef 51 = .ok (.iadd, 1) := by decide +kernel
theorem dJ2_indexOfSupplementary_4cfef_52 : decode cJ2_indexOfSupplementary_4cfef 52 = .ok (.invokestatic 71, 3) := by decide +kernel
theorem dJ2_indexOfSupplementary_4cfef_55 : decode cJ2_indexOfSupplementary_4cfef 55 = .ok (.iload 5, 2) := by decide +kernel
theorem dJ2_indexOfSupplementary_4cfef_57 : decode cJ2_indexOfSupplementary_4cfef 57 = .ok (.if_icmp .ne 6, 3) := by decide +kernel
theorem dJ2_indexOfSupplementary_4cfef_60 : decode cJ2_indexOfSupplementary_4cfef 60 = .ok (.iload 6, 2) := by decide +kernel
theorem dJ2_indexOfSupplementary_4cfef_62 : decode cJ2_indexOfSupplementary_4cfef 62 = .ok (.ireturn, 1) := by decide +kernel
theorem dJ2_indexOfSupplementary_4cfef_63 : decode cJ2_indexOfSupplementary_4cfef 63 = .ok (.iinc 6 1, 3) := by decide +kernel
theorem dJ2_indexOfSupplementary_4cfef_66 : decode cJ2_indexOfSupplementary_4cfef 66 = .ok (.goto (-38), 3) := by decide +kernel
theorem dJ2_indexOfSupplementary_4cfef_69 : decode cJ2_indexOfSupplementary_4cfef 69 = .ok (.iconst (-1), 1) := by decide +kernel
theorem dJ2_indexOfSupplementary_4cfef_70 : decode cJ2_indexOfSupplementary_4cfef 70 = .ok (.ireturn, 1) := by decide +kernel
theorem dJ2_charAt_3b067_0 : decode cJ2_charAt_3b067 0 = .ok (.iload_n 1, 1) := by decide +kernel
theorem dJ2_charAt_3b067_1 : decode cJ2_charAt_3b067 1 = .ok (.aload_n 0, 1) := by decide +kernel
theorem dJ2_charAt_3b067_2 : decode cJ2_charAt_3b067 2 = .ok (.invokestatic 67, 3) := by decide +kernel
theorem dJ2_charAt_3b067_5 : decode cJ2_charAt_3b067 5 = .ok (.aload_n 0, 1) := by decide +kernel
theorem dJ2_charAt_3b067_6 : decode cJ2_charAt_3b067 6 = .ok (.iload_n 1, 1) := by decide +kernel
theorem dJ2_charAt_3b067_7 : decode cJ2_charAt_3b067 7 = .ok (.invokestatic 71, 3) := by decide +kernel
theorem dJ2_charAt_3b067_10 : decode cJ2_charAt_3b067 10 = .ok (.ireturn, 1) := by decide +kernel
theorem dJ2_checkIndex_2214a_0 : decode cJ2_checkIndex_2214a 0 = .ok (.iload_n 0, 1) := by decide +kernel
theorem dJ2_checkIndex_2214a_1 : decode cJ2_checkIndex_2214a 1 = .ok (.aload_n 1, 1) := by decide +kernel
theorem dJ2_checkIndex_2214a_2 : decode cJ2_checkIndex_2214a 2 = .ok (.invokestatic 48, 3) := by decide +kernel
theorem dJ2_checkIndex_2214a_5 : decode cJ2_checkIndex_2214a 5 = .ok (.invokestatic 414, 3) := by decide +kernel
theorem dJ2_checkIndex_2214a_8 : decode cJ2_checkIndex_2214a 8 = .ok (.return_, 1) := by decide +kernel
theorem dJ2_checkBoundsBeginEnd_d044e_0 : decode cJ2_checkBoundsBeginEnd_d044e 0 = .ok (.iload_n 0, 1) := by decide +kernel
theorem dJ2_checkBoundsBeginEnd_d044e_1 : decode cJ2_checkBoundsBeginEnd_d044e 1 = .ok (.iload_n 1, 1) := by decide +kernel
theorem dJ2_checkBoundsBeginEnd_d044e_2 : decode cJ2_checkBoundsBeginEnd_d044e 2 = .ok (.aload_n 2, 1) := by decide +kernel
theorem dJ2_checkBoundsBeginEnd_d044e_3 : decode cJ2_checkBoundsBeginEnd_d044e 3 = .ok (.invokestatic 48, 3) := by decide +kernel
theorem dJ2_checkBoundsBeginEnd_d044e_6 : decode cJ2_checkBoundsBeginEnd_d044e 6 = .ok (.invokestatic 241, 3) := by decide +kernel
theorem dJ2_checkBoundsBeginEnd_d044e_9 : decode cJ2_checkBoundsBeginEnd_d044e 9 = .ok (.return_, 1) := by decide +kernel
theorem dJ7_fill_53178_0 : decode cJ7_fill_53178 0 = .ok (.iconst 0, 1) := by decide +kernel
theorem dJ7_fill_53178_1 : decode cJ7_fill_53178 1 = .ok (.istore_n 2, 1) := by decide +kernel
theorem dJ7_fill_53178_2 : decode cJ7_fill_53178 2 = .ok (.aload_n 0, 1) := by decide +kernel
theorem dJ7_fill_53178_3 : decode cJ7_fill_53178 3 = .ok (.arraylength, 1) := by decide +kernel
theorem dJ7_fill_53178_4 : decode cJ7_fill_53178 4 = .ok (.istore_n 3, 1) := by decide +kernel
theorem dJ7_fill_53178_5 : decode cJ7_fill_53178 5 = .ok (.iload_n 2, 1) := by decide +kernel
theorem dJ7_fill_53178_6 : decode cJ7_fill_53178 6 = .ok (.iload_n 3, 1) := by decide +kernel
theorem dJ7_fill_53178_7 : decode cJ7_fill_53178 7 = .ok (.if_icmp .ge 13, 3) := by decide +kernel
theorem dJ7_fill_53178_10 : decode cJ7_fill_53178 10 = .ok (.aload_n 0, 1) := by decide +kernel
theorem dJ7_fill_53178_11 : decode cJ7_fill_53178 11 = .ok (.iload_n 2, 1) := by decide +kernel
theorem dJ7_fill_53178_12 : decode cJ7_fill_53178 12 = .ok (.iload_n 1, 1) := by decide +kernel
theorem dJ7_fill_53178_13 : decode cJ7_fill_53178 13 = .ok (.iastore, 1) := by decide +kernel
theorem dJ7_fill_53178_14 : decode cJ7_fill_53178 14 = .ok (.iinc 2 1, 3) := by decide +kernel
theorem dJ7_fill_53178_17 : decode cJ7_fill_53178 17 = .ok (.goto (-12), 3) := by decide +kernel
theorem dJ7_fill_53178_20 : decode cJ7_fill_53178 20 = .ok (.return_, 1) := by decide +kernel
theorem dJ3_checkIndex_8e157_0 : decode cJ3_checkIndex_8e157 0 = .ok (.iload_n 0, 1) := by decide +kernel
theorem dJ3_checkIndex_8e157_1 : decode cJ3_checkIndex_8e157 1 = .ok (.ifCond .lt 8, 3) := by decide +kernel
theorem dJ3_checkIndex_8e157_4 : decode cJ3_checkIndex_8e157 4 = .ok (.iload_n 0, 1) := by decide +kernel
theorem dJ3_checkIndex_8e157_5 : decode cJ3_checkIndex_8e157 5 = .ok (.iload_n 1, 1) := by decide +kernel
theorem dJ3_checkIndex_8e157_6 : decode cJ3_checkIndex_8e157 6 = .ok (.if_icmp .lt 10, 3) := by decide +kernel
theorem dJ3_checkIndex_8e157_9 : decode cJ3_checkIndex_8e157 9 = .ok (.aload_n 2, 1) := by decide +kernel
theorem dJ3_checkIndex_8e157_10 : decode cJ3_checkIndex_8e157 10 = .ok (.iload_n 0, 1) := by decide +kernel
theorem dJ3_checkIndex_8e157_11 : decode cJ3_checkIndex_8e157 11 = .ok (.iload_n 1, 1) := by decide +kernel
theorem dJ3_checkIndex_8e157_12 : decode cJ3_checkIndex_8e157 12 = .ok (.invokestatic 95, 3) := by decide +kernel
theorem dJ3_checkIndex_8e157_15 : decode cJ3_checkIndex_8e157 15 = .ok (.athrow, 1) := by decide +kernel
theorem dJ3_checkIndex_8e157_16 : decode cJ3_checkIndex_8e157 16 = .ok (.iload_n 0, 1) := by decide +kernel
theorem dJ3_checkIndex_8e157_17 : decode cJ3_checkIndex_8e157 17 = .ok (.ireturn, 1) := by decide +kernel
theorem dJ3_checkFromToIndex_8c36e_0 : decode cJ3_checkFromToIndex_8c36e 0 = .ok (.iload_n 0, 1) := by decide +kernel
theorem dJ3_checkFromToIndex_8c36e_1 : decode cJ3_checkFromToIndex_8c36e 1 = .ok (.ifCond .lt 13, 3) := by decide +kernel
theorem dJ3_checkFromToIndex_8c36e_4 : decode cJ3_checkFromToIndex_8c36e 4 = .ok (.iload_n 0, 1) := by decide +kernel
theorem dJ3_checkFromToIndex_8c36e_5 : decode cJ3_checkFromToIndex_8c36e 5 = .ok (.iload_n 1, 1) := by decide +kernel
theorem dJ3_checkFromToIndex_8c36e_6 : decode cJ3_checkFromToIndex_8c36e 6 = .ok (.if_icmp .gt 8, 3) := by decide +kernel
theorem dJ3_checkFromToIndex_8c36e_9 : decode cJ3_checkFromToIndex_8c36e 9 = .ok (.iload_n 1, 1) := by decide +kernel
theorem dJ3_checkFromToIndex_8c36e_10 : decode cJ3_checkFromToIndex_8c36e 10 = .ok (.iload_n 2, 1) := by decide +kernel
theorem dJ3_checkFromToIndex_8c36e_11 : decode cJ3_checkFromToIndex_8c36e 11 = .ok (.if_icmp .le 11, 3) := by decide +kernel
theorem dJ3_checkFromToIndex_8c36e_14 : decode cJ3_checkFromToIndex_8c36e 14 = .ok (.aload_n 3, 1) := by decide +kernel
theorem dJ3_checkFromToIndex_8c36e_15 : decode cJ3_checkFromToIndex_8c36e 15 = .ok (.iload_n 0, 1) := by decide +kernel
theorem dJ3_checkFromToIndex_8c36e_16 : decode cJ3_checkFromToIndex_8c36e 16 = .ok (.iload_n 1, 1) := by decide +kernel
theorem dJ3_checkFromToIndex_8c36e_17 : decode cJ3_checkFromToIndex_8c36e 17 = .ok (.iload_n 2, 1) := by decide +kernel
theorem dJ3_checkFromToIndex_8c36e_18 : decode cJ3_checkFromToIndex_8c36e 18 = .ok (.invokestatic 99, 3) := by decide +kernel
theorem dJ3_checkFromToIndex_8c36e_21 : decode cJ3_checkFromToIndex_8c36e 21 = .ok (.athrow, 1) := by decide +kernel
theorem dJ3_checkFromToIndex_8c36e_22 : decode cJ3_checkFromToIndex_8c36e 22 = .ok (.iload_n 0, 1) := by decide +kernel
theorem dJ3_checkFromToIndex_8c36e_23 : decode cJ3_checkFromToIndex_8c36e 23 = .ok (.ireturn, 1) := by decide +kernel
theorem dL_law_0 : decode cL_law 0 = .ok (.new 7, 3) := by decide +kernel
theorem dL_law_3 : decode cL_law 3 = .ok (.dup, 1) := by decide +kernel
theorem dL_law_4 : decode cL_law 4 = .ok (.invokespecial 9, 3) := by decide +kernel
theorem dL_law_7 : decode cL_law 7 = .ok (.astore_n 1, 1) := by decide +kernel
theorem dL_law_8 : decode cL_law 8 = .ok (.new 10, 3) := by decide +kernel
theorem dL_law_11 : decode cL_law 11 = .ok (.dup, 1) := by decide +kernel
theorem dL_law_12 : decode cL_law 12 = .ok (.invokespecial 12, 3) := by decide +kernel
theorem dL_law_15 : decode cL_law 15 = .ok (.astore_n 2, 1) := by decide +kernel
theorem dL_law_16 : decode cL_law 16 = .ok (.iconst 0, 1) := by decide +kernel
theorem dL_law_17 : decode cL_law 17 = .ok (.istore_n 3, 1) := by decide +kernel
theorem dL_law_18 : decode cL_law 18 = .ok (.iload_n 3, 1) := by decide +kernel
theorem dL_law_19 : decode cL_law 19 = .ok (.aload_n 0, 1) := by decide +kernel
theorem dL_law_20 : decode cL_law 20 = .ok (.arraylength, 1) := by decide +kernel
theorem dL_law_21 : decode cL_law 21 = .ok (.bipush 6, 2) := by decide +kernel
theorem dL_law_23 : decode cL_law 23 = .ok (.isub, 1) := by decide +kernel
theorem dL_law_24 : decode cL_law 24 = .ok (.if_icmp .gt 1248, 3) := by decide +kernel
theorem dL_law_27 : decode cL_law 27 = .ok (.aload_n 0, 1) := by decide +kernel
theorem dL_law_28 : decode cL_law 28 = .ok (.iload_n 3, 1) := by decide +kernel
theorem dL_law_29 : decode cL_law 29 = .ok (.iaload, 1) := by decide +kernel
theorem dL_law_30 : decode cL_law 30 = .ok (.bipush 63, 2) := by decide +kernel
theorem dL_law_32 : decode cL_law 32 = .ok (.iand, 1) := by decide +kernel
theorem dL_law_33 : decode cL_law 33 = .ok (.tableswitch 1233 0 33 #[151, 214, 237, 250, 263, 286, 319, 352, 375, 408, 421, 454, 487, 520, 543, 556, 599, 622, 665, 698, 741, 794, 817, 850, 903, 956, 989, 1032, 1055, 1088, 1111, 1164, 1187, 1210], 151) := by decide +kernel
theorem dL_law_184 : decode cL_law 184 = .ok (.aload_n 1, 1) := by decide +kernel
theorem dL_law_185 : decode cL_law 185 = .ok (.aload_n 0, 1) := by decide +kernel
theorem dL_law_186 : decode cL_law 186 = .ok (.iload_n 3, 1) := by decide +kernel
theorem dL_law_187 : decode cL_law 187 = .ok (.iconst 1, 1) := by decide +kernel
theorem dL_law_188 : decode cL_law 188 = .ok (.iadd, 1) := by decide +kernel
theorem dL_law_189 : decode cL_law 189 = .ok (.iaload, 1) := by decide +kernel
theorem dL_law_190 : decode cL_law 190 = .ok (.aload_n 0, 1) := by decide +kernel
theorem dL_law_191 : decode cL_law 191 = .ok (.iload_n 3, 1) := by decide +kernel
theorem dL_law_192 : decode cL_law 192 = .ok (.iconst 2, 1) := by decide +kernel
theorem dL_law_193 : decode cL_law 193 = .ok (.iadd, 1) := by decide +kernel
theorem dL_law_194 : decode cL_law 194 = .ok (.iaload, 1) := by decide +kernel
theorem dL_law_195 : decode cL_law 195 = .ok (.aload_n 0, 1) := by decide +kernel
theorem dL_law_196 : decode cL_law 196 = .ok (.iload_n 3, 1) := by decide +kernel
theorem dL_law_197 : decode cL_law 197 = .ok (.iconst 3, 1) := by decide +kernel
theorem dL_law_198 : decode cL_law 198 = .ok (.iadd, 1) := by decide +kernel
theorem dL_law_199 : decode cL_law 199 = .ok (.iaload, 1) := by decide +kernel
theorem dL_law_200 : decode cL_law 200 = .ok (.aload_n 0, 1) := by decide +kernel
theorem dL_law_201 : decode cL_law 201 = .ok (.iload_n 3, 1) := by decide +kernel
theorem dL_law_202 : decode cL_law 202 = .ok (.iconst 4, 1) := by decide +kernel
theorem dL_law_203 : decode cL_law 203 = .ok (.iadd, 1) := by decide +kernel
theorem dL_law_204 : decode cL_law 204 = .ok (.iaload, 1) := by decide +kernel
theorem dL_law_205 : decode cL_law 205 = .ok (.aload_n 0, 1) := by decide +kernel
theorem dL_law_206 : decode cL_law 206 = .ok (.iload_n 3, 1) := by decide +kernel
theorem dL_law_207 : decode cL_law 207 = .ok (.iconst 5, 1) := by decide +kernel
theorem dL_law_208 : decode cL_law 208 = .ok (.iadd, 1) := by decide +kernel
theorem dL_law_209 : decode cL_law 209 = .ok (.iaload, 1) := by decide +kernel
theorem dL_law_210 : decode cL_law 210 = .ok (.invokevirtual 13, 3) := by decide +kernel
theorem dL_law_213 : decode cL_law 213 = .ok (.aload_n 2, 1) := by decide +kernel
theorem dL_law_214 : decode cL_law 214 = .ok (.aload_n 0, 1) := by decide +kernel
theorem dL_law_215 : decode cL_law 215 = .ok (.iload_n 3, 1) := by decide +kernel
theorem dL_law_216 : decode cL_law 216 = .ok (.iconst 1, 1) := by decide +kernel
theorem dL_law_217 : decode cL_law 217 = .ok (.iadd, 1) := by decide +kernel
theorem dL_law_218 : decode cL_law 218 = .ok (.iaload, 1) := by decide +kernel
theorem dL_law_219 : decode cL_law 219 = .ok (.aload_n 0, 1) := by decide +kernel
theorem dL_law_220 : decode cL_law 220 = .ok (.iload_n 3, 1) := by decide +kernel
theorem dL_law_221 : decode cL_law 221 = .ok (.iconst 2, 1) := by decide +kernel
theorem dL_law_222 : decode cL_law 222 = .ok (.iadd, 1) := by decide +kernel
theorem dL_law_223 : decode cL_law 223 = .ok (.iaload, 1) := by decide +kernel
theorem dL_law_224 : decode cL_law 224 = .ok (.aload_n 0, 1) := by decide +kernel
theorem dL_law_225 : decode cL_law 225 = .ok (.iload_n 3, 1) := by decide +kernel
theorem dL_law_226 : decode cL_law 226 = .ok (.iconst 3, 1) := by decide +kernel
theorem dL_law_227 : decode cL_law 227 = .ok (.iadd, 1) := by decide +kernel
theorem dL_law_228 : decode cL_law 228 = .ok (.iaload, 1) := by decide +kernel
theorem dL_law_229 : decode cL_law 229 = .ok (.aload_n 0, 1) := by decide +kernel
theorem dL_law_230 : decode cL_law 230 = .ok (.iload_n 3, 1) := by decide +kernel
theorem dL_law_231 : decode cL_law 231 = .ok (.iconst 4, 1) := by decide +kernel
theorem dL_law_232 : decode cL_law 232 = .ok (.iadd, 1) := by decide +kernel
theorem dL_law_233 : decode cL_law 233 = .ok (.iaload, 1) := by decide +kernel
theorem dL_law_234 : decode cL_law 234 = .ok (.aload_n 0, 1) := by decide +kernel
theorem dL_law_235 : decode cL_law 235 = .ok (.iload_n 3, 1) := by decide +kernel
theorem dL_law_236 : decode cL_law 236 = .ok (.iconst 5, 1) := by decide +kernel
theorem dL_law_237 : decode cL_law 237 = .ok (.iadd, 1) := by decide +kernel
theorem dL_law_238 : decode cL_law 238 = .ok (.iaload, 1) := by decide +kernel
