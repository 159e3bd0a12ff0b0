theorem dX13_likes_106 : decode cX13_likes 106 = .ok (.aload_n 0, 1) := by decide +kernel
theorem dX13_likes_107 : decode cX13_likes 107 = .ok (.getfield 28, 3) := by decide +kernel
theorem dX13_likes_110 : decode cX13_likes 110 = .ok (.iload_n 1, 1) := by decide +kernel
theorem dX13_likes_111 : decode cX13_likes 111 = .ok (.iaload, 1) := by decide +kernel
theorem dX13_likes_112 : decode cX13_likes 112 = .ok (.i2l, 1) := by decide +kernel
theorem dX13_likes_113 : decode cX13_likes 113 = .ok (.lastore, 1) := by decide +kernel
theorem dX13_likes_114 : decode cX13_likes 114 = .ok (.aload_n 0, 1) := by decide +kernel
theorem dX13_likes_115 : decode cX13_likes 115 = .ok (.getfield 120, 3) := by decide +kernel
theorem dX13_likes_118 : decode cX13_likes 118 = .ok (.bipush 7, 2) := by decide +kernel
theorem dX13_likes_120 : decode cX13_likes 120 = .ok (.aload_n 0, 1) := by decide +kernel
theorem dX13_likes_121 : decode cX13_likes 121 = .ok (.aload_n 0, 1) := by decide +kernel
theorem dX13_likes_122 : decode cX13_likes 122 = .ok (.getfield 28, 3) := by decide +kernel
theorem dX13_likes_125 : decode cX13_likes 125 = .ok (.iload_n 1, 1) := by decide +kernel
theorem dX13_likes_126 : decode cX13_likes 126 = .ok (.iaload, 1) := by decide +kernel
theorem dX13_likes_127 : decode cX13_likes 127 = .ok (.aload_n 0, 1) := by decide +kernel
theorem dX13_likes_128 : decode cX13_likes 128 = .ok (.getfield 43, 3) := by decide +kernel
theorem dX13_likes_131 : decode cX13_likes 131 = .ok (.iload_n 1, 1) := by decide +kernel
theorem dX13_likes_132 : decode cX13_likes 132 = .ok (.iaload, 1) := by decide +kernel
theorem dX13_likes_133 : decode cX13_likes 133 = .ok (.invokevirtual 377, 3) := by decide +kernel
theorem dX13_likes_136 : decode cX13_likes 136 = .ok (.i2l, 1) := by decide +kernel
theorem dX13_likes_137 : decode cX13_likes 137 = .ok (.lastore, 1) := by decide +kernel
theorem dX13_likes_138 : decode cX13_likes 138 = .ok (.aload_n 0, 1) := by decide +kernel
theorem dX13_likes_139 : decode cX13_likes 139 = .ok (.getfield 120, 3) := by decide +kernel
theorem dX13_likes_142 : decode cX13_likes 142 = .ok (.bipush 8, 2) := by decide +kernel
theorem dX13_likes_144 : decode cX13_likes 144 = .ok (.aload_n 0, 1) := by decide +kernel
theorem dX13_likes_145 : decode cX13_likes 145 = .ok (.getfield 9, 3) := by decide +kernel
theorem dX13_likes_148 : decode cX13_likes 148 = .ok (.iconst 5, 1) := by decide +kernel
theorem dX13_likes_149 : decode cX13_likes 149 = .ok (.iaload, 1) := by decide +kernel
theorem dX13_likes_150 : decode cX13_likes 150 = .ok (.iload_n 2, 1) := by decide +kernel
theorem dX13_likes_151 : decode cX13_likes 151 = .ok (.if_icmp .ne 7, 3) := by decide +kernel
theorem dX13_likes_154 : decode cX13_likes 154 = .ok (.lconst 1, 1) := by decide +kernel
theorem dX13_likes_155 : decode cX13_likes 155 = .ok (.goto 4, 3) := by decide +kernel
theorem dX13_likes_158 : decode cX13_likes 158 = .ok (.lconst 0, 1) := by decide +kernel
theorem dX13_likes_159 : decode cX13_likes 159 = .ok (.lastore, 1) := by decide +kernel
theorem dX13_likes_160 : decode cX13_likes 160 = .ok (.aload_n 0, 1) := by decide +kernel
theorem dX13_likes_161 : decode cX13_likes 161 = .ok (.getfield 120, 3) := by decide +kernel
theorem dX13_likes_164 : decode cX13_likes 164 = .ok (.bipush 9, 2) := by decide +kernel
theorem dX13_likes_166 : decode cX13_likes 166 = .ok (.aload_n 0, 1) := by decide +kernel
theorem dX13_likes_167 : decode cX13_likes 167 = .ok (.getfield 9, 3) := by decide +kernel
theorem dX13_likes_170 : decode cX13_likes 170 = .ok (.iconst 4, 1) := by decide +kernel
theorem dX13_likes_171 : decode cX13_likes 171 = .ok (.iaload, 1) := by decide +kernel
theorem dX13_likes_172 : decode cX13_likes 172 = .ok (.aload_n 0, 1) := by decide +kernel
theorem dX13_likes_173 : decode cX13_likes 173 = .ok (.getfield 9, 3) := by decide +kernel
theorem dX13_likes_176 : decode cX13_likes 176 = .ok (.iconst 1, 1) := by decide +kernel
theorem dX13_likes_177 : decode cX13_likes 177 = .ok (.iaload, 1) := by decide +kernel
theorem dX13_likes_178 : decode cX13_likes 178 = .ok (.irem, 1) := by decide +kernel
theorem dX13_likes_179 : decode cX13_likes 179 = .ok (.i2l, 1) := by decide +kernel
theorem dX13_likes_180 : decode cX13_likes 180 = .ok (.lastore, 1) := by decide +kernel
theorem dX13_likes_181 : decode cX13_likes 181 = .ok (.aload_n 0, 1) := by decide +kernel
theorem dX13_likes_182 : decode cX13_likes 182 = .ok (.getfield 120, 3) := by decide +kernel
theorem dX13_likes_185 : decode cX13_likes 185 = .ok (.bipush 10, 2) := by decide +kernel
theorem dX13_likes_187 : decode cX13_likes 187 = .ok (.aload_n 0, 1) := by decide +kernel
theorem dX13_likes_188 : decode cX13_likes 188 = .ok (.getfield 9, 3) := by decide +kernel
theorem dX13_likes_191 : decode cX13_likes 191 = .ok (.bipush 6, 2) := by decide +kernel
theorem dX13_likes_193 : decode cX13_likes 193 = .ok (.iaload, 1) := by decide +kernel
theorem dX13_likes_194 : decode cX13_likes 194 = .ok (.i2l, 1) := by decide +kernel
theorem dX13_likes_195 : decode cX13_likes 195 = .ok (.lastore, 1) := by decide +kernel
theorem dX13_likes_196 : decode cX13_likes 196 = .ok (.aload_n 0, 1) := by decide +kernel
theorem dX13_likes_197 : decode cX13_likes 197 = .ok (.getfield 120, 3) := by decide +kernel
theorem dX13_likes_200 : decode cX13_likes 200 = .ok (.bipush 11, 2) := by decide +kernel
theorem dX13_likes_202 : decode cX13_likes 202 = .ok (.aload_n 0, 1) := by decide +kernel
theorem dX13_likes_203 : decode cX13_likes 203 = .ok (.getfield 9, 3) := by decide +kernel
theorem dX13_likes_206 : decode cX13_likes 206 = .ok (.iconst 4, 1) := by decide +kernel
theorem dX13_likes_207 : decode cX13_likes 207 = .ok (.iaload, 1) := by decide +kernel
theorem dX13_likes_208 : decode cX13_likes 208 = .ok (.i2l, 1) := by decide +kernel
theorem dX13_likes_209 : decode cX13_likes 209 = .ok (.lastore, 1) := by decide +kernel
theorem dX13_likes_210 : decode cX13_likes 210 = .ok (.aload_n 0, 1) := by decide +kernel
theorem dX13_likes_211 : decode cX13_likes 211 = .ok (.invokevirtual 383, 3) := by decide +kernel
theorem dX13_likes_214 : decode cX13_likes 214 = .ok (.lreturn, 1) := by decide +kernel
theorem dX13_whom_0 : decode cX13_whom 0 = .ok (.iconst (-1), 1) := by decide +kernel
theorem dX13_whom_1 : decode cX13_whom 1 = .ok (.istore_n 2, 1) := by decide +kernel
theorem dX13_whom_2 : decode cX13_whom 2 = .ok (.lconst 0, 1) := by decide +kernel
theorem dX13_whom_3 : decode cX13_whom 3 = .ok (.lstore_n 3, 1) := by decide +kernel
theorem dX13_whom_4 : decode cX13_whom 4 = .ok (.iconst 0, 1) := by decide +kernel
theorem dX13_whom_5 : decode cX13_whom 5 = .ok (.istore 5, 2) := by decide +kernel
theorem dX13_whom_7 : decode cX13_whom 7 = .ok (.iload 5, 2) := by decide +kernel
theorem dX13_whom_9 : decode cX13_whom 9 = .ok (.aload_n 0, 1) := by decide +kernel
theorem dX13_whom_10 : decode cX13_whom 10 = .ok (.getfield 9, 3) := by decide +kernel
theorem dX13_whom_13 : decode cX13_whom 13 = .ok (.iconst 2, 1) := by decide +kernel
theorem dX13_whom_14 : decode cX13_whom 14 = .ok (.iaload, 1) := by decide +kernel
theorem dX13_whom_15 : decode cX13_whom 15 = .ok (.if_icmp .ge 47, 3) := by decide +kernel
theorem dX13_whom_18 : decode cX13_whom 18 = .ok (.aload_n 0, 1) := by decide +kernel
theorem dX13_whom_19 : decode cX13_whom 19 = .ok (.getfield 13, 3) := by decide +kernel
theorem dX13_whom_22 : decode cX13_whom 22 = .ok (.iload 5, 2) := by decide +kernel
theorem dX13_whom_24 : decode cX13_whom 24 = .ok (.iaload, 1) := by decide +kernel
theorem dX13_whom_25 : decode cX13_whom 25 = .ok (.aload_n 0, 1) := by decide +kernel
theorem dX13_whom_26 : decode cX13_whom 26 = .ok (.getfield 28, 3) := by decide +kernel
theorem dX13_whom_29 : decode cX13_whom 29 = .ok (.iload_n 1, 1) := by decide +kernel
theorem dX13_whom_30 : decode cX13_whom 30 = .ok (.iaload, 1) := by decide +kernel
theorem dX13_whom_31 : decode cX13_whom 31 = .ok (.if_icmp .ne 25, 3) := by decide +kernel
theorem dX13_whom_34 : decode cX13_whom 34 = .ok (.aload_n 0, 1) := by decide +kernel
theorem dX13_whom_35 : decode cX13_whom 35 = .ok (.iload_n 1, 1) := by decide +kernel
theorem dX13_whom_36 : decode cX13_whom 36 = .ok (.iload 5, 2) := by decide +kernel
theorem dX13_whom_38 : decode cX13_whom 38 = .ok (.invokevirtual 387, 3) := by decide +kernel
theorem dX13_whom_41 : decode cX13_whom 41 = .ok (.lstore 6, 2) := by decide +kernel
theorem dX13_whom_43 : decode cX13_whom 43 = .ok (.lload 6, 2) := by decide +kernel
theorem dX13_whom_45 : decode cX13_whom 45 = .ok (.lload_n 3, 1) := by decide +kernel
theorem dX13_whom_46 : decode cX13_whom 46 = .ok (.lcmp, 1) := by decide +kernel
theorem dX13_whom_47 : decode cX13_whom 47 = .ok (.ifCond .le 9, 3) := by decide +kernel
theorem dX13_whom_50 : decode cX13_whom 50 = .ok (.iload 5, 2) := by decide +kernel
theorem dX13_whom_52 : decode cX13_whom 52 = .ok (.istore_n 2, 1) := by decide +kernel
theorem dX13_whom_53 : decode cX13_whom 53 = .ok (.lload 6, 2) := by decide +kernel
theorem dX13_whom_55 : decode cX13_whom 55 = .ok (.lstore_n 3, 1) := by decide +kernel
theorem dX13_whom_56 : decode cX13_whom 56 = .ok (.iinc 5 1, 3) := by decide +kernel
theorem dX13_whom_59 : decode cX13_whom 59 = .ok (.goto (-52), 3) := by decide +kernel
theorem dX13_whom_62 : decode cX13_whom 62 = .ok (.iload_n 2, 1) := by decide +kernel
theorem dX13_whom_63 : decode cX13_whom 63 = .ok (.ireturn, 1) := by decide +kernel
theorem dX13_walks_0 : decode cX13_walks 0 = .ok (.aload_n 0, 1) := by decide +kernel
theorem dX13_walks_1 : decode cX13_walks 1 = .ok (.iload_n 1, 1) := by decide +kernel
theorem dX13_walks_2 : decode cX13_walks 2 = .ok (.invokevirtual 391, 3) := by decide +kernel
theorem dX13_walks_5 : decode cX13_walks 5 = .ok (.istore_n 2, 1) := by decide +kernel
theorem dX13_walks_6 : decode cX13_walks 6 = .ok (.aload_n 0, 1) := by decide +kernel
theorem dX13_walks_7 : decode cX13_walks 7 = .ok (.getfield 127, 3) := by decide +kernel
theorem dX13_walks_10 : decode cX13_walks 10 = .ok (.iload_n 1, 1) := by decide +kernel
theorem dX13_walks_11 : decode cX13_walks 11 = .ok (.iload_n 2, 1) := by decide +kernel
theorem dX13_walks_12 : decode cX13_walks 12 = .ok (.iastore, 1) := by decide +kernel
theorem dX13_walks_13 : decode cX13_walks 13 = .ok (.iload_n 2, 1) := by decide +kernel
theorem dX13_walks_14 : decode cX13_walks 14 = .ok (.iconst (-1), 1) := by decide +kernel
theorem dX13_walks_15 : decode cX13_walks 15 = .ok (.if_icmp .ne 20, 3) := by decide +kernel
theorem dX13_walks_18 : decode cX13_walks 18 = .ok (.aload_n 0, 1) := by decide +kernel
theorem dX13_walks_19 : decode cX13_walks 19 = .ok (.getfield 28, 3) := by decide +kernel
theorem dX13_walks_22 : decode cX13_walks 22 = .ok (.iload_n 1, 1) := by decide +kernel
theorem dX13_walks_23 : decode cX13_walks 23 = .ok (.aload_n 0, 1) := by decide +kernel
theorem dX13_walks_24 : decode cX13_walks 24 = .ok (.aload_n 0, 1) := by decide +kernel
theorem dX13_walks_25 : decode cX13_walks 25 = .ok (.getfield 28, 3) := by decide +kernel
theorem dX13_walks_28 : decode cX13_walks 28 = .ok (.iload_n 1, 1) := by decide +kernel
theorem dX13_walks_29 : decode cX13_walks 29 = .ok (.iaload, 1) := by decide +kernel
theorem dX13_walks_30 : decode cX13_walks 30 = .ok (.invokevirtual 394, 3) := by decide +kernel
theorem dX13_walks_33 : decode cX13_walks 33 = .ok (.iastore, 1) := by decide +kernel
theorem dX13_walks_34 : decode cX13_walks 34 = .ok (.return_, 1) := by decide +kernel
theorem dX13_walks_35 : decode cX13_walks 35 = .ok (.aload_n 0, 1) := by decide +kernel
theorem dX13_walks_36 : decode cX13_walks 36 = .ok (.getfield 19, 3) := by decide +kernel
theorem dX13_walks_39 : decode cX13_walks 39 = .ok (.iload_n 2, 1) := by decide +kernel
theorem dX13_walks_40 : decode cX13_walks 40 = .ok (.dup2, 1) := by decide +kernel
theorem dX13_walks_41 : decode cX13_walks 41 = .ok (.iaload, 1) := by decide +kernel
theorem dX13_walks_42 : decode cX13_walks 42 = .ok (.iconst 1, 1) := by decide +kernel
theorem dX13_walks_43 : decode cX13_walks 43 = .ok (.iadd, 1) := by decide +kernel
theorem dX13_walks_44 : decode cX13_walks 44 = .ok (.iastore, 1) := by decide +kernel
theorem dX13_walks_45 : decode cX13_walks 45 = .ok (.aload_n 0, 1) := by decide +kernel
theorem dX13_walks_46 : decode cX13_walks 46 = .ok (.getfield 22, 3) := by decide +kernel
theorem dX13_walks_49 : decode cX13_walks 49 = .ok (.iload_n 2, 1) := by decide +kernel
theorem dX13_walks_50 : decode cX13_walks 50 = .ok (.dup2, 1) := by decide +kernel
theorem dX13_walks_51 : decode cX13_walks 51 = .ok (.iaload, 1) := by decide +kernel
theorem dX13_walks_52 : decode cX13_walks 52 = .ok (.iconst 1, 1) := by decide +kernel
theorem dX13_walks_53 : decode cX13_walks 53 = .ok (.iadd, 1) := by decide +kernel
theorem dX13_walks_54 : decode cX13_walks 54 = .ok (.iastore, 1) := by decide +kernel
theorem dX13_walks_55 : decode cX13_walks 55 = .ok (.aload_n 0, 1) := by decide +kernel
theorem dX13_walks_56 : decode cX13_walks 56 = .ok (.getfield 31, 3) := by decide +kernel
theorem dX13_walks_59 : decode cX13_walks 59 = .ok (.bipush 6, 2) := by decide +kernel
theorem dX13_walks_61 : decode cX13_walks 61 = .ok (.iload_n 1, 1) := by decide +kernel
theorem dX13_walks_62 : decode cX13_walks 62 = .ok (.imul, 1) := by decide +kernel
theorem dX13_walks_63 : decode cX13_walks 63 = .ok (.iload_n 2, 1) := by decide +kernel
theorem dX13_walks_64 : decode cX13_walks 64 = .ok (.iadd, 1) := by decide +kernel
theorem dX13_walks_65 : decode cX13_walks 65 = .ok (.dup2, 1) := by decide +kernel
theorem dX13_walks_66 : decode cX13_walks 66 = .ok (.iaload, 1) := by decide +kernel
theorem dX13_walks_67 : decode cX13_walks 67 = .ok (.iconst 1, 1) := by decide +kernel
theorem dX13_walks_68 : decode cX13_walks 68 = .ok (.iadd, 1) := by decide +kernel
theorem dX13_walks_69 : decode cX13_walks 69 = .ok (.iastore, 1) := by decide +kernel
theorem dX13_walks_70 : decode cX13_walks 70 = .ok (.aload_n 0, 1) := by decide +kernel
theorem dX13_walks_71 : decode cX13_walks 71 = .ok (.getfield 28, 3) := by decide +kernel
theorem dX13_walks_74 : decode cX13_walks 74 = .ok (.iload_n 1, 1) := by decide +kernel
theorem dX13_walks_75 : decode cX13_walks 75 = .ok (.aload_n 0, 1) := by decide +kernel
theorem dX13_walks_76 : decode cX13_walks 76 = .ok (.getfield 37, 3) := by decide +kernel
theorem dX13_walks_79 : decode cX13_walks 79 = .ok (.iload_n 2, 1) := by decide +kernel
theorem dX13_walks_80 : decode cX13_walks 80 = .ok (.iaload, 1) := by decide +kernel
theorem dX13_walks_81 : decode cX13_walks 81 = .ok (.iconst 1, 1) := by decide +kernel
theorem dX13_walks_82 : decode cX13_walks 82 = .ok (.if_icmp .ne 16, 3) := by decide +kernel
theorem dX13_walks_85 : decode cX13_walks 85 = .ok (.aload_n 0, 1) := by decide +kernel
theorem dX13_walks_86 : decode cX13_walks 86 = .ok (.aload_n 0, 1) := by decide +kernel
theorem dX13_walks_87 : decode cX13_walks 87 = .ok (.getfield 28, 3) := by decide +kernel
theorem dX13_walks_90 : decode cX13_walks 90 = .ok (.iload_n 1, 1) := by decide +kernel
theorem dX13_walks_91 : decode cX13_walks 91 = .ok (.iaload, 1) := by decide +kernel
theorem dX13_walks_92 : decode cX13_walks 92 = .ok (.invokevirtual 397, 3) := by decide +kernel
theorem dX13_walks_95 : decode cX13_walks 95 = .ok (.goto 19, 3) := by decide +kernel
theorem dX13_walks_98 : decode cX13_walks 98 = .ok (.aload_n 0, 1) := by decide +kernel
theorem dX13_walks_99 : decode cX13_walks 99 = .ok (.aload_n 0, 1) := by decide +kernel
theorem dX13_walks_100 : decode cX13_walks 100 = .ok (.getfield 28, 3) := by decide +kernel
theorem dX13_walks_103 : decode cX13_walks 103 = .ok (.iload_n 1, 1) := by decide +kernel
theorem dX13_walks_104 : decode cX13_walks 104 = .ok (.iaload, 1) := by decide +kernel
theorem dX13_walks_105 : decode cX13_walks 105 = .ok (.aload_n 0, 1) := by decide +kernel
theorem dX13_walks_106 : decode cX13_walks 106 = .ok (.getfield 43, 3) := by decide +kernel
theorem dX13_walks_109 : decode cX13_walks 109 = .ok (.iload_n 1, 1) := by decide +kernel
theorem dX13_walks_110 : decode cX13_walks 110 = .ok (.iaload, 1) := by decide +kernel
theorem dX13_walks_111 : decode cX13_walks 111 = .ok (.invokevirtual 400, 3) := by decide +kernel
theorem dX13_walks_114 : decode cX13_walks 114 = .ok (.iastore, 1) := by decide +kernel
theorem dX13_walks_115 : decode cX13_walks 115 = .ok (.return_, 1) := by decide +kernel
theorem dX13_endsTerm_0 : decode cX13_endsTerm 0 = .ok (.iconst (-1), 1) := by decide +kernel
theorem dX13_endsTerm_1 : decode cX13_endsTerm 1 = .ok (.istore_n 1, 1) := by decide +kernel
theorem dX13_endsTerm_2 : decode cX13_endsTerm 2 = .ok (.iconst 0, 1) := by decide +kernel
theorem dX13_endsTerm_3 : decode cX13_endsTerm 3 = .ok (.istore_n 2, 1) := by decide +kernel
theorem dX13_endsTerm_4 : decode cX13_endsTerm 4 = .ok (.iload_n 2, 1) := by decide +kernel
theorem dX13_endsTerm_5 : decode cX13_endsTerm 5 = .ok (.aload_n 0, 1) := by decide +kernel
theorem dX13_endsTerm_6 : decode cX13_endsTerm 6 = .ok (.getfield 9, 3) := by decide +kernel
theorem dX13_endsTerm_9 : decode cX13_endsTerm 9 = .ok (.iconst 2, 1) := by decide +kernel
theorem dX13_endsTerm_10 : decode cX13_endsTerm 10 = .ok (.iaload, 1) := by decide +kernel
theorem dX13_endsTerm_11 : decode cX13_endsTerm 11 = .ok (.if_icmp .ge 39, 3) := by decide +kernel
theorem dX13_endsTerm_14 : decode cX13_endsTerm 14 = .ok (.aload_n 0, 1) := by decide +kernel
theorem dX13_endsTerm_15 : decode cX13_endsTerm 15 = .ok (.getfield 19, 3) := by decide +kernel
theorem dX13_endsTerm_18 : decode cX13_endsTerm 18 = .ok (.iload_n 2, 1) := by decide +kernel
theorem dX13_endsTerm_19 : decode cX13_endsTerm 19 = .ok (.iaload, 1) := by decide +kernel
theorem dX13_endsTerm_20 : decode cX13_endsTerm 20 = .ok (.iload_n 1, 1) := by decide +kernel
theorem dX13_endsTerm_21 : decode cX13_endsTerm 21 = .ok (.iconst (-1), 1) := by decide +kernel
theorem dX13_endsTerm_22 : decode cX13_endsTerm 22 = .ok (.if_icmp .ne 7, 3) := by decide +kernel
theorem dX13_endsTerm_25 : decode cX13_endsTerm 25 = .ok (.iconst 0, 1) := by decide +kernel
theorem dX13_endsTerm_26 : decode cX13_endsTerm 26 = .ok (.goto 9, 3) := by decide +kernel
theorem dX13_endsTerm_29 : decode cX13_endsTerm 29 = .ok (.aload_n 0, 1) := by decide +kernel
theorem dX13_endsTerm_30 : decode cX13_endsTerm 30 = .ok (.getfield 19, 3) := by decide +kernel
theorem dX13_endsTerm_33 : decode cX13_endsTerm 33 = .ok (.iload_n 1, 1) := by decide +kernel
theorem dX13_endsTerm_34 : decode cX13_endsTerm 34 = .ok (.iaload, 1) := by decide +kernel
theorem dX13_endsTerm_35 : decode cX13_endsTerm 35 = .ok (.if_icmp .le 7, 3) := by decide +kernel
theorem dX13_endsTerm_38 : decode cX13_endsTerm 38 = .ok (.iload_n 2, 1) := by decide +kernel
theorem dX13_endsTerm_39 : decode cX13_endsTerm 39 = .ok (.goto 4, 3) := by decide +kernel
theorem dX13_endsTerm_42 : decode cX13_endsTerm 42 = .ok (.iload_n 1, 1) := by decide +kernel
theorem dX13_endsTerm_43 : decode cX13_endsTerm 43 = .ok (.istore_n 1, 1) := by decide +kernel
theorem dX13_endsTerm_44 : decode cX13_endsTerm 44 = .ok (.iinc 2 1, 3) := by decide +kernel
theorem dX13_endsTerm_47 : decode cX13_endsTerm 47 = .ok (.goto (-43), 3) := by decide +kernel
theorem dX13_endsTerm_50 : decode cX13_endsTerm 50 = .ok (.aload_n 0, 1) := by decide +kernel
theorem dX13_endsTerm_51 : decode cX13_endsTerm 51 = .ok (.getfield 9, 3) := by decide +kernel
theorem dX13_endsTerm_54 : decode cX13_endsTerm 54 = .ok (.iconst 5, 1) := by decide +kernel
theorem dX13_endsTerm_55 : decode cX13_endsTerm 55 = .ok (.iload_n 1, 1) := by decide +kernel
theorem dX13_endsTerm_56 : decode cX13_endsTerm 56 = .ok (.iastore, 1) := by decide +kernel
theorem dX13_endsTerm_57 : decode cX13_endsTerm 57 = .ok (.iload_n 1, 1) := by decide +kernel
theorem dX13_endsTerm_58 : decode cX13_endsTerm 58 = .ok (.iconst (-1), 1) := by decide +kernel
theorem dX13_endsTerm_59 : decode cX13_endsTerm 59 = .ok (.if_icmp .eq 13, 3) := by decide +kernel
theorem dX13_endsTerm_62 : decode cX13_endsTerm 62 = .ok (.aload_n 0, 1) := by decide +kernel
theorem dX13_endsTerm_63 : decode cX13_endsTerm 63 = .ok (.getfield 25, 3) := by decide +kernel
theorem dX13_endsTerm_66 : decode cX13_endsTerm 66 = .ok (.iload_n 1, 1) := by decide +kernel
theorem dX13_endsTerm_67 : decode cX13_endsTerm 67 = .ok (.dup2, 1) := by decide +kernel
theorem dX13_endsTerm_68 : decode cX13_endsTerm 68 = .ok (.iaload, 1) := by decide +kernel
theorem dX13_endsTerm_69 : decode cX13_endsTerm 69 = .ok (.iconst 1, 1) := by decide +kernel
theorem dX13_endsTerm_70 : decode cX13_endsTerm 70 = .ok (.iadd, 1) := by decide +kernel
theorem dX13_endsTerm_71 : decode cX13_endsTerm 71 = .ok (.iastore, 1) := by decide +kernel
theorem dX13_endsTerm_72 : decode cX13_endsTerm 72 = .ok (.iconst 0, 1) := by decide +kernel
theorem dX13_endsTerm_73 : decode cX13_endsTerm 73 = .ok (.istore_n 2, 1) := by decide +kernel
theorem dX13_endsTerm_74 : decode cX13_endsTerm 74 = .ok (.iload_n 2, 1) := by decide +kernel
theorem dX13_endsTerm_75 : decode cX13_endsTerm 75 = .ok (.bipush 6, 2) := by decide +kernel
theorem dX13_endsTerm_77 : decode cX13_endsTerm 77 = .ok (.if_icmp .ge 16, 3) := by decide +kernel
theorem dX13_endsTerm_80 : decode cX13_endsTerm 80 = .ok (.aload_n 0, 1) := by decide +kernel
theorem dX13_endsTerm_81 : decode cX13_endsTerm 81 = .ok (.getfield 19, 3) := by decide +kernel
theorem dX13_endsTerm_84 : decode cX13_endsTerm 84 = .ok (.iload_n 2, 1) := by decide +kernel
theorem dX13_endsTerm_85 : decode cX13_endsTerm 85 = .ok (.iconst 0, 1) := by decide +kernel
theorem dX13_endsTerm_86 : decode cX13_endsTerm 86 = .ok (.iastore, 1) := by decide +kernel
theorem dX13_endsTerm_87 : decode cX13_endsTerm 87 = .ok (.iinc 2 1, 3) := by decide +kernel
theorem dX13_endsTerm_90 : decode cX13_endsTerm 90 = .ok (.goto (-16), 3) := by decide +kernel
theorem dX13_endsTerm_93 : decode cX13_endsTerm 93 = .ok (.return_, 1) := by decide +kernel
theorem dX13_goes_0 : decode cX13_goes 0 = .ok (.iconst 0, 1) := by decide +kernel
theorem dX13_goes_1 : decode cX13_goes 1 = .ok (.istore_n 1, 1) := by decide +kernel
theorem dX13_goes_2 : decode cX13_goes 2 = .ok (.iconst 0, 1) := by decide +kernel
theorem dX13_goes_3 : decode cX13_goes 3 = .ok (.istore_n 2, 1) := by decide +kernel
theorem dX13_goes_4 : decode cX13_goes 4 = .ok (.iload_n 2, 1) := by decide +kernel
theorem dX13_goes_5 : decode cX13_goes 5 = .ok (.aload_n 0, 1) := by decide +kernel
theorem dX13_goes_6 : decode cX13_goes 6 = .ok (.getfield 9, 3) := by decide +kernel
theorem dX13_goes_9 : decode cX13_goes 9 = .ok (.iconst 3, 1) := by decide +kernel
theorem dX13_goes_10 : decode cX13_goes 10 = .ok (.iaload, 1) := by decide +kernel
theorem dX13_goes_11 : decode cX13_goes 11 = .ok (.if_icmp .ge 56, 3) := by decide +kernel
theorem dX13_goes_14 : decode cX13_goes 14 = .ok (.aload_n 0, 1) := by decide +kernel
theorem dX13_goes_15 : decode cX13_goes 15 = .ok (.getfield 28, 3) := by decide +kernel
theorem dX13_goes_18 : decode cX13_goes 18 = .ok (.iload_n 2, 1) := by decide +kernel
theorem dX13_goes_19 : decode cX13_goes 19 = .ok (.aload_n 0, 1) := by decide +kernel
theorem dX13_goes_20 : decode cX13_goes 20 = .ok (.getfield 28, 3) := by decide +kernel
theorem dX13_goes_23 : decode cX13_goes 23 = .ok (.iload_n 2, 1) := by decide +kernel
theorem dX13_goes_24 : decode cX13_goes 24 = .ok (.iaload, 1) := by decide +kernel
theorem dX13_goes_25 : decode cX13_goes 25 = .ok (.iconst (-1), 1) := by decide +kernel
theorem dX13_goes_26 : decode cX13_goes 26 = .ok (.if_icmp .ne 28, 3) := by decide +kernel
theorem dX13_goes_29 : decode cX13_goes 29 = .ok (.aload_n 0, 1) := by decide +kernel
theorem dX13_goes_30 : decode cX13_goes 30 = .ok (.getfield 9, 3) := by decide +kernel
theorem dX13_goes_33 : decode cX13_goes 33 = .ok (.iconst 4, 1) := by decide +kernel
theorem dX13_goes_34 : decode cX13_goes 34 = .ok (.iaload, 1) := by decide +kernel
theorem dX13_goes_35 : decode cX13_goes 35 = .ok (.aload_n 0, 1) := by decide +kernel
theorem dX13_goes_36 : decode cX13_goes 36 = .ok (.getfield 46, 3) := by decide +kernel
theorem dX13_goes_39 : decode cX13_goes 39 = .ok (.iload_n 2, 1) := by decide +kernel
theorem dX13_goes_40 : decode cX13_goes 40 = .ok (.iaload, 1) := by decide +kernel
theorem dX13_goes_41 : decode cX13_goes 41 = .ok (.irem, 1) := by decide +kernel
theorem dX13_goes_42 : decode cX13_goes 42 = .ok (.ifCond .ne 12, 3) := by decide +kernel
theorem dX13_goes_45 : decode cX13_goes 45 = .ok (.aload_n 0, 1) := by decide +kernel
theorem dX13_goes_46 : decode cX13_goes 46 = .ok (.getfield 40, 3) := by decide +kernel
theorem dX13_goes_49 : decode cX13_goes 49 = .ok (.iload_n 2, 1) := by decide +kernel
theorem dX13_goes_50 : decode cX13_goes 50 = .ok (.iaload, 1) := by decide +kernel
theorem dX13_goes_51 : decode cX13_goes 51 = .ok (.goto 9, 3) := by decide +kernel
theorem dX13_goes_54 : decode cX13_goes 54 = .ok (.aload_n 0, 1) := by decide +kernel
theorem dX13_goes_55 : decode cX13_goes 55 = .ok (.getfield 28, 3) := by decide +kernel
theorem dX13_goes_58 : decode cX13_goes 58 = .ok (.iload_n 2, 1) := by decide +kernel
theorem dX13_goes_59 : decode cX13_goes 59 = .ok (.iaload, 1) := by decide +kernel
theorem dX13_goes_60 : decode cX13_goes 60 = .ok (.iastore, 1) := by decide +kernel
theorem dX13_goes_61 : decode cX13_goes 61 = .ok (.iinc 2 1, 3) := by decide +kernel
theorem dX13_goes_64 : decode cX13_goes 64 = .ok (.goto (-60), 3) := by decide +kernel
theorem dX13_goes_67 : decode cX13_goes 67 = .ok (.iconst 0, 1) := by decide +kernel
theorem dX13_goes_68 : decode cX13_goes 68 = .ok (.istore_n 2, 1) := by decide +kernel
theorem dX13_goes_69 : decode cX13_goes 69 = .ok (.iload_n 2, 1) := by decide +kernel
theorem dX13_goes_70 : decode cX13_goes 70 = .ok (.aload_n 0, 1) := by decide +kernel
theorem dX13_goes_71 : decode cX13_goes 71 = .ok (.getfield 9, 3) := by decide +kernel
theorem dX13_goes_74 : decode cX13_goes 74 = .ok (.iconst 3, 1) := by decide +kernel
theorem dX13_goes_75 : decode cX13_goes 75 = .ok (.iaload, 1) := by decide +kernel
theorem dX13_goes_76 : decode cX13_goes 76 = .ok (.if_icmp .ge 85, 3) := by decide +kernel
theorem dX13_goes_79 : decode cX13_goes 79 = .ok (.aload_n 0, 1) := by decide +kernel
theorem dX13_goes_80 : decode cX13_goes 80 = .ok (.getfield 127, 3) := by decide +kernel
theorem dX13_goes_83 : decode cX13_goes 83 = .ok (.iload_n 2, 1) := by decide +kernel
theorem dX13_goes_84 : decode cX13_goes 84 = .ok (.iconst (-1), 1) := by decide +kernel
theorem dX13_goes_85 : decode cX13_goes 85 = .ok (.iastore, 1) := by decide +kernel
theorem dX13_goes_86 : decode cX13_goes 86 = .ok (.aload_n 0, 1) := by decide +kernel
theorem dX13_goes_87 : decode cX13_goes 87 = .ok (.getfield 28, 3) := by decide +kernel
theorem dX13_goes_90 : decode cX13_goes 90 = .ok (.iload_n 2, 1) := by decide +kernel
theorem dX13_goes_91 : decode cX13_goes 91 = .ok (.iaload, 1) := by decide +kernel
theorem dX13_goes_92 : decode cX13_goes 92 = .ok (.aload_n 0, 1) := by decide +kernel
theorem dX13_goes_93 : decode cX13_goes 93 = .ok (.getfield 43, 3) := by decide +kernel
theorem dX13_goes_96 : decode cX13_goes 96 = .ok (.iload_n 2, 1) := by decide +kernel
theorem dX13_goes_97 : decode cX13_goes 97 = .ok (.iaload, 1) := by decide +kernel
theorem dX13_goes_98 : decode cX13_goes 98 = .ok (.if_icmp .ne 24, 3) := by decide +kernel
theorem dX13_goes_101 : decode cX13_goes 101 = .ok (.aload_n 0, 1) := by decide +kernel
theorem dX13_goes_102 : decode cX13_goes 102 = .ok (.getfield 28, 3) := by decide +kernel
theorem dX13_goes_105 : decode cX13_goes 105 = .ok (.iload_n 2, 1) := by decide +kernel
theorem dX13_goes_106 : decode cX13_goes 106 = .ok (.iconst (-1), 1) := by decide +kernel
theorem dX13_goes_107 : decode cX13_goes 107 = .ok (.iastore, 1) := by decide +kernel
theorem dX13_goes_108 : decode cX13_goes 108 = .ok (.aload_n 0, 1) := by decide +kernel
theorem dX13_goes_109 : decode cX13_goes 109 = .ok (.getfield 9, 3) := by decide +kernel
theorem dX13_goes_112 : decode cX13_goes 112 = .ok (.bipush 6, 2) := by decide +kernel
theorem dX13_goes_114 : decode cX13_goes 114 = .ok (.dup2, 1) := by decide +kernel
theorem dX13_goes_115 : decode cX13_goes 115 = .ok (.iaload, 1) := by decide +kernel
theorem dX13_goes_116 : decode cX13_goes 116 = .ok (.iconst 1, 1) := by decide +kernel
theorem dX13_goes_117 : decode cX13_goes 117 = .ok (.iadd, 1) := by decide +kernel
theorem dX13_goes_118 : decode cX13_goes 118 = .ok (.iastore, 1) := by decide +kernel
theorem dX13_goes_119 : decode cX13_goes 119 = .ok (.goto 36, 3) := by decide +kernel
theorem dX13_goes_122 : decode cX13_goes 122 = .ok (.aload_n 0, 1) := by decide +kernel
theorem dX13_goes_123 : decode cX13_goes 123 = .ok (.getfield 28, 3) := by decide +kernel
theorem dX13_goes_126 : decode cX13_goes 126 = .ok (.iload_n 2, 1) := by decide +kernel
theorem dX13_goes_127 : decode cX13_goes 127 = .ok (.iaload, 1) := by decide +kernel
theorem dX13_goes_128 : decode cX13_goes 128 = .ok (.iconst (-1), 1) := by decide +kernel
theorem dX13_goes_129 : decode cX13_goes 129 = .ok (.if_icmp .eq 26, 3) := by decide +kernel
theorem dX13_goes_132 : decode cX13_goes 132 = .ok (.aload_n 0, 1) := by decide +kernel
theorem dX13_goes_133 : decode cX13_goes 133 = .ok (.iload_n 2, 1) := by decide +kernel
theorem dX13_goes_134 : decode cX13_goes 134 = .ok (.invokevirtual 403, 3) := by decide +kernel
theorem dX13_goes_137 : decode cX13_goes 137 = .ok (.iload_n 1, 1) := by decide +kernel
theorem dX13_goes_138 : decode cX13_goes 138 = .ok (.aload_n 0, 1) := by decide +kernel
theorem dX13_goes_139 : decode cX13_goes 139 = .ok (.getfield 127, 3) := by decide +kernel
theorem dX13_goes_142 : decode cX13_goes 142 = .ok (.iload_n 2, 1) := by decide +kernel
theorem dX13_goes_143 : decode cX13_goes 143 = .ok (.iaload, 1) := by decide +kernel
theorem dX13_goes_144 : decode cX13_goes 144 = .ok (.iconst (-1), 1) := by decide +kernel
theorem dX13_goes_145 : decode cX13_goes 145 = .ok (.if_icmp .ne 7, 3) := by decide +kernel
theorem dX13_goes_148 : decode cX13_goes 148 = .ok (.iconst 0, 1) := by decide +kernel
theorem dX13_goes_149 : decode cX13_goes 149 = .ok (.goto 4, 3) := by decide +kernel
theorem dX13_goes_152 : decode cX13_goes 152 = .ok (.iconst 1, 1) := by decide +kernel
theorem dX13_goes_153 : decode cX13_goes 153 = .ok (.iadd, 1) := by decide +kernel
theorem dX13_goes_154 : decode cX13_goes 154 = .ok (.istore_n 1, 1) := by decide +kernel
theorem dX13_goes_155 : decode cX13_goes 155 = .ok (.iinc 2 1, 3) := by decide +kernel
theorem dX13_goes_158 : decode cX13_goes 158 = .ok (.goto (-89), 3) := by decide +kernel
theorem dX13_goes_161 : decode cX13_goes 161 = .ok (.aload_n 0, 1) := by decide +kernel
theorem dX13_goes_162 : decode cX13_goes 162 = .ok (.getfield 9, 3) := by decide +kernel
theorem dX13_goes_165 : decode cX13_goes 165 = .ok (.iconst 4, 1) := by decide +kernel
theorem dX13_goes_166 : decode cX13_goes 166 = .ok (.iaload, 1) := by decide +kernel
theorem dX13_goes_167 : decode cX13_goes 167 = .ok (.aload_n 0, 1) := by decide +kernel
theorem dX13_goes_168 : decode cX13_goes 168 = .ok (.getfield 9, 3) := by decide +kernel
theorem dX13_goes_171 : decode cX13_goes 171 = .ok (.iconst 1, 1) := by decide +kernel
theorem dX13_goes_172 : decode cX13_goes 172 = .ok (.iaload, 1) := by decide +kernel
theorem dX13_goes_173 : decode cX13_goes 173 = .ok (.irem, 1) := by decide +kernel
theorem dX13_goes_174 : decode cX13_goes 174 = .ok (.aload_n 0, 1) := by decide +kernel
theorem dX13_goes_175 : decode cX13_goes 175 = .ok (.getfield 9, 3) := by decide +kernel
theorem dX13_goes_178 : decode cX13_goes 178 = .ok (.iconst 1, 1) := by decide +kernel
theorem dX13_goes_179 : decode cX13_goes 179 = .ok (.iaload, 1) := by decide +kernel
theorem dX13_goes_180 : decode cX13_goes 180 = .ok (.iconst 1, 1) := by decide +kernel
theorem dX13_goes_181 : decode cX13_goes 181 = .ok (.isub, 1) := by decide +kernel
theorem dX13_goes_182 : decode cX13_goes 182 = .ok (.if_icmp .ne 7, 3) := by decide +kernel
theorem dX13_goes_185 : decode cX13_goes 185 = .ok (.aload_n 0, 1) := by decide +kernel
theorem dX13_goes_186 : decode cX13_goes 186 = .ok (.invokevirtual 406, 3) := by decide +kernel
theorem dX13_goes_189 : decode cX13_goes 189 = .ok (.aload_n 0, 1) := by decide +kernel
theorem dX13_goes_190 : decode cX13_goes 190 = .ok (.getfield 9, 3) := by decide +kernel
theorem dX13_goes_193 : decode cX13_goes 193 = .ok (.iconst 4, 1) := by decide +kernel
theorem dX13_goes_194 : decode cX13_goes 194 = .ok (.dup2, 1) := by decide +kernel
theorem dX13_goes_195 : decode cX13_goes 195 = .ok (.iaload, 1) := by decide +kernel
theorem dX13_goes_196 : decode cX13_goes 196 = .ok (.iconst 1, 1) := by decide +kernel
theorem dX13_goes_197 : decode cX13_goes 197 = .ok (.iadd, 1) := by decide +kernel
theorem dX13_goes_198 : decode cX13_goes 198 = .ok (.iastore, 1) := by decide +kernel
theorem dX13_goes_199 : decode cX13_goes 199 = .ok (.iload_n 1, 1) := by decide +kernel
theorem dX13_goes_200 : decode cX13_goes 200 = .ok (.ireturn, 1) := by decide +kernel
theorem dX13_goFor_0 : decode cX13_goFor 0 = .ok (.iconst 0, 1) := by decide +kernel
theorem dX13_goFor_1 : decode cX13_goFor 1 = .ok (.istore_n 2, 1) := by decide +kernel
theorem dX13_goFor_2 : decode cX13_goFor 2 = .ok (.iload_n 2, 1) := by decide +kernel
theorem dX13_goFor_3 : decode cX13_goFor 3 = .ok (.iload_n 1, 1) := by decide +kernel
theorem dX13_goFor_4 : decode cX13_goFor 4 = .ok (.if_icmp .ge 14, 3) := by decide +kernel
theorem dX13_goFor_7 : decode cX13_goFor 7 = .ok (.aload_n 0, 1) := by decide +kernel
theorem dX13_goFor_8 : decode cX13_goFor 8 = .ok (.invokevirtual 409, 3) := by decide +kernel
theorem dX13_goFor_11 : decode cX13_goFor 11 = .ok (.pop, 1) := by decide +kernel
theorem dX13_goFor_12 : decode cX13_goFor 12 = .ok (.iinc 2 1, 3) := by decide +kernel
theorem dX13_goFor_15 : decode cX13_goFor 15 = .ok (.goto (-13), 3) := by decide +kernel
theorem dX13_goFor_18 : decode cX13_goFor 18 = .ok (.return_, 1) := by decide +kernel
theorem dX13_moves_0 : decode cX13_moves 0 = .ok (.aload_n 0, 1) := by decide +kernel
theorem dX13_moves_1 : decode cX13_moves 1 = .ok (.getfield 412, 3) := by decide +kernel
theorem dX13_moves_4 : decode cX13_moves 4 = .ok (.ifCond .eq 15, 3) := by decide +kernel
theorem dX13_moves_7 : decode cX13_moves 7 = .ok (.aload_n 0, 1) := by decide +kernel
theorem dX13_moves_8 : decode cX13_moves 8 = .ok (.getfield 130, 3) := by decide +kernel
theorem dX13_moves_11 : decode cX13_moves 11 = .ok (.aload_n 0, 1) := by decide +kernel
theorem dX13_moves_12 : decode cX13_moves 12 = .ok (.getfield 416, 3) := by decide +kernel
theorem dX13_moves_15 : decode cX13_moves 15 = .ok (.iaload, 1) := by decide +kernel
theorem dX13_moves_16 : decode cX13_moves 16 = .ok (.goto 4, 3) := by decide +kernel
theorem dX13_moves_19 : decode cX13_moves 19 = .ok (.iload_n 1, 1) := by decide +kernel
theorem dX13_moves_20 : decode cX13_moves 20 = .ok (.istore_n 2, 1) := by decide +kernel
theorem dX13_moves_21 : decode cX13_moves 21 = .ok (.aload_n 0, 1) := by decide +kernel
theorem dX13_moves_22 : decode cX13_moves 22 = .ok (.getfield 130, 3) := by decide +kernel
theorem dX13_moves_25 : decode cX13_moves 25 = .ok (.aload_n 0, 1) := by decide +kernel
theorem dX13_moves_26 : decode cX13_moves 26 = .ok (.getfield 416, 3) := by decide +kernel
theorem dX13_moves_29 : decode cX13_moves 29 = .ok (.iload_n 2, 1) := by decide +kernel
theorem dX13_moves_30 : decode cX13_moves 30 = .ok (.iastore, 1) := by decide +kernel
theorem dX13_moves_31 : decode cX13_moves 31 = .ok (.aload_n 0, 1) := by decide +kernel
theorem dX13_moves_32 : decode cX13_moves 32 = .ok (.dup, 1) := by decide +kernel
theorem dX13_moves_33 : decode cX13_moves 33 = .ok (.getfield 416, 3) := by decide +kernel
theorem dX13_moves_36 : decode cX13_moves 36 = .ok (.iconst 1, 1) := by decide +kernel
theorem dX13_moves_37 : decode cX13_moves 37 = .ok (.iadd, 1) := by decide +kernel
theorem dX13_moves_38 : decode cX13_moves 38 = .ok (.putfield 416, 3) := by decide +kernel
theorem dX13_moves_41 : decode cX13_moves 41 = .ok (.iload_n 2, 1) := by decide +kernel
theorem dX13_moves_42 : decode cX13_moves 42 = .ok (.ireturn, 1) := by decide +kernel
theorem dX13_movesRow_0 : decode cX13_movesRow 0 = .ok (.iconst 0, 1) := by decide +kernel
theorem dX13_movesRow_1 : decode cX13_movesRow 1 = .ok (.istore_n 2, 1) := by decide +kernel
theorem dX13_movesRow_2 : decode cX13_movesRow 2 = .ok (.iload_n 2, 1) := by decide +kernel
theorem dX13_movesRow_3 : decode cX13_movesRow 3 = .ok (.aload_n 1, 1) := by decide +kernel
theorem dX13_movesRow_4 : decode cX13_movesRow 4 = .ok (.arraylength, 1) := by decide +kernel
theorem dX13_movesRow_5 : decode cX13_movesRow 5 = .ok (.if_icmp .ge 19, 3) := by decide +kernel
theorem dX13_movesRow_8 : decode cX13_movesRow 8 = .ok (.aload_n 1, 1) := by decide +kernel
theorem dX13_movesRow_9 : decode cX13_movesRow 9 = .ok (.iload_n 2, 1) := by decide +kernel
theorem dX13_movesRow_10 : decode cX13_movesRow 10 = .ok (.aload_n 0, 1) := by decide +kernel
theorem dX13_movesRow_11 : decode cX13_movesRow 11 = .ok (.aload_n 1, 1) := by decide +kernel
theorem dX13_movesRow_12 : decode cX13_movesRow 12 = .ok (.iload_n 2, 1) := by decide +kernel
theorem dX13_movesRow_13 : decode cX13_movesRow 13 = .ok (.iaload, 1) := by decide +kernel
theorem dX13_movesRow_14 : decode cX13_movesRow 14 = .ok (.invokevirtual 419, 3) := by decide +kernel
theorem dX13_movesRow_17 : decode cX13_movesRow 17 = .ok (.iastore, 1) := by decide +kernel
theorem dX13_movesRow_18 : decode cX13_movesRow 18 = .ok (.iinc 2 1, 3) := by decide +kernel
theorem dX13_movesRow_21 : decode cX13_movesRow 21 = .ok (.goto (-19), 3) := by decide +kernel
theorem dX13_movesRow_24 : decode cX13_movesRow 24 = .ok (.return_, 1) := by decide +kernel
theorem dX13_movesAll_0 : decode cX13_movesAll 0 = .ok (.aload_n 0, 1) := by decide +kernel
theorem dX13_movesAll_1 : decode cX13_movesAll 1 = .ok (.bipush 76, 2) := by decide +kernel
theorem dX13_movesAll_3 : decode cX13_movesAll 3 = .ok (.iload_n 1, 1) := by decide +kernel
theorem dX13_movesAll_4 : decode cX13_movesAll 4 = .ok (.imul, 1) := by decide +kernel
theorem dX13_movesAll_5 : decode cX13_movesAll 5 = .ok (.putfield 416, 3) := by decide +kernel
theorem dX13_movesAll_8 : decode cX13_movesAll 8 = .ok (.aload_n 0, 1) := by decide +kernel
theorem dX13_movesAll_9 : decode cX13_movesAll 9 = .ok (.iload_n 2, 1) := by decide +kernel
theorem dX13_movesAll_10 : decode cX13_movesAll 10 = .ok (.putfield 412, 3) := by decide +kernel
theorem dX13_movesAll_13 : decode cX13_movesAll 13 = .ok (.iconst 4, 1) := by decide +kernel
theorem dX13_movesAll_14 : decode cX13_movesAll 14 = .ok (.istore_n 3, 1) := by decide +kernel
theorem dX13_movesAll_15 : decode cX13_movesAll 15 = .ok (.iload_n 3, 1) := by decide +kernel
theorem dX13_movesAll_16 : decode cX13_movesAll 16 = .ok (.bipush 7, 2) := by decide +kernel
theorem dX13_movesAll_18 : decode cX13_movesAll 18 = .ok (.if_icmp .ge 25, 3) := by decide +kernel
theorem dX13_movesAll_21 : decode cX13_movesAll 21 = .ok (.aload_n 0, 1) := by decide +kernel
theorem dX13_movesAll_22 : decode cX13_movesAll 22 = .ok (.getfield 9, 3) := by decide +kernel
theorem dX13_movesAll_25 : decode cX13_movesAll 25 = .ok (.iload_n 3, 1) := by decide +kernel
theorem dX13_movesAll_26 : decode cX13_movesAll 26 = .ok (.aload_n 0, 1) := by decide +kernel
theorem dX13_movesAll_27 : decode cX13_movesAll 27 = .ok (.aload_n 0, 1) := by decide +kernel
theorem dX13_movesAll_28 : decode cX13_movesAll 28 = .ok (.getfield 9, 3) := by decide +kernel
theorem dX13_movesAll_31 : decode cX13_movesAll 31 = .ok (.iload_n 3, 1) := by decide +kernel
theorem dX13_movesAll_32 : decode cX13_movesAll 32 = .ok (.iaload, 1) := by decide +kernel
theorem dX13_movesAll_33 : decode cX13_movesAll 33 = .ok (.invokevirtual 419, 3) := by decide +kernel
theorem dX13_movesAll_36 : decode cX13_movesAll 36 = .ok (.iastore, 1) := by decide +kernel
theorem dX13_movesAll_37 : decode cX13_movesAll 37 = .ok (.iinc 3 1, 3) := by decide +kernel
theorem dX13_movesAll_40 : decode cX13_movesAll 40 = .ok (.goto (-25), 3) := by decide +kernel
theorem dX13_movesAll_43 : decode cX13_movesAll 43 = .ok (.aload_n 0, 1) := by decide +kernel
theorem dX13_movesAll_44 : decode cX13_movesAll 44 = .ok (.aload_n 0, 1) := by decide +kernel
theorem dX13_movesAll_45 : decode cX13_movesAll 45 = .ok (.getfield 13, 3) := by decide +kernel
theorem dX13_movesAll_48 : decode cX13_movesAll 48 = .ok (.invokevirtual 422, 3) := by decide +kernel
theorem dX13_movesAll_51 : decode cX13_movesAll 51 = .ok (.aload_n 0, 1) := by decide +kernel
theorem dX13_movesAll_52 : decode cX13_movesAll 52 = .ok (.aload_n 0, 1) := by decide +kernel
theorem dX13_movesAll_53 : decode cX13_movesAll 53 = .ok (.getfield 16, 3) := by decide +kernel
theorem dX13_movesAll_56 : decode cX13_movesAll 56 = .ok (.invokevirtual 422, 3) := by decide +kernel
theorem dX13_movesAll_59 : decode cX13_movesAll 59 = .ok (.aload_n 0, 1) := by decide +kernel
theorem dX13_movesAll_60 : decode cX13_movesAll 60 = .ok (.aload_n 0, 1) := by decide +kernel
theorem dX13_movesAll_61 : decode cX13_movesAll 61 = .ok (.getfield 19, 3) := by decide +kernel
theorem dX13_movesAll_64 : decode cX13_movesAll 64 = .ok (.invokevirtual 422, 3) := by decide +kernel
theorem dX13_movesAll_67 : decode cX13_movesAll 67 = .ok (.aload_n 0, 1) := by decide +kernel
theorem dX13_movesAll_68 : decode cX13_movesAll 68 = .ok (.aload_n 0, 1) := by decide +kernel
theorem dX13_movesAll_69 : decode cX13_movesAll 69 = .ok (.getfield 22, 3) := by decide +kernel
theorem dX13_movesAll_72 : decode cX13_movesAll 72 = .ok (.invokevirtual 422, 3) := by decide +kernel
theorem dX13_movesAll_75 : decode cX13_movesAll 75 = .ok (.aload_n 0, 1) := by decide +kernel
theorem dX13_movesAll_76 : decode cX13_movesAll 76 = .ok (.aload_n 0, 1) := by decide +kernel
theorem dX13_movesAll_77 : decode cX13_movesAll 77 = .ok (.getfield 25, 3) := by decide +kernel
theorem dX13_movesAll_80 : decode cX13_movesAll 80 = .ok (.invokevirtual 422, 3) := by decide +kernel
theorem dX13_movesAll_83 : decode cX13_movesAll 83 = .ok (.aload_n 0, 1) := by decide +kernel
theorem dX13_movesAll_84 : decode cX13_movesAll 84 = .ok (.aload_n 0, 1) := by decide +kernel
theorem dX13_movesAll_85 : decode cX13_movesAll 85 = .ok (.getfield 28, 3) := by decide +kernel
theorem dX13_movesAll_88 : decode cX13_movesAll 88 = .ok (.invokevirtual 422, 3) := by decide +kernel
theorem dX13_movesAll_91 : decode cX13_movesAll 91 = .ok (.aload_n 0, 1) := by decide +kernel
theorem dX13_movesAll_92 : decode cX13_movesAll 92 = .ok (.aload_n 0, 1) := by decide +kernel
theorem dX13_movesAll_93 : decode cX13_movesAll 93 = .ok (.getfield 31, 3) := by decide +kernel
theorem dX13_movesAll_96 : decode cX13_movesAll 96 = .ok (.invokevirtual 422, 3) := by decide +kernel
theorem dX13_movesAll_99 : decode cX13_movesAll 99 = .ok (.aload_n 0, 1) := by decide +kernel
theorem dX13_movesAll_100 : decode cX13_movesAll 100 = .ok (.aload_n 0, 1) := by decide +kernel
theorem dX13_movesAll_101 : decode cX13_movesAll 101 = .ok (.getfield 34, 3) := by decide +kernel
theorem dX13_movesAll_104 : decode cX13_movesAll 104 = .ok (.invokevirtual 422, 3) := by decide +kernel
theorem dX13_movesAll_107 : decode cX13_movesAll 107 = .ok (.return_, 1) := by decide +kernel
theorem dX13_keepsAct_0 : decode cX13_keepsAct 0 = .ok (.aload_n 0, 1) := by decide +kernel
theorem dX13_keepsAct_1 : decode cX13_keepsAct 1 = .ok (.getfield 331, 3) := by decide +kernel
theorem dX13_keepsAct_4 : decode cX13_keepsAct 4 = .ok (.bipush 20, 2) := by decide +kernel
theorem dX13_keepsAct_6 : decode cX13_keepsAct 6 = .ok (.if_icmp .ne 44, 3) := by decide +kernel
theorem dX13_keepsAct_9 : decode cX13_keepsAct 9 = .ok (.bipush 76, 2) := by decide +kernel
theorem dX13_keepsAct_11 : decode cX13_keepsAct 11 = .ok (.istore_n 1, 1) := by decide +kernel
theorem dX13_keepsAct_12 : decode cX13_keepsAct 12 = .ok (.iload_n 1, 1) := by decide +kernel
theorem dX13_keepsAct_13 : decode cX13_keepsAct 13 = .ok (.sipush 1520, 3) := by decide +kernel
theorem dX13_keepsAct_16 : decode cX13_keepsAct 16 = .ok (.if_icmp .ge 24, 3) := by decide +kernel
theorem dX13_keepsAct_19 : decode cX13_keepsAct 19 = .ok (.aload_n 0, 1) := by decide +kernel
theorem dX13_keepsAct_20 : decode cX13_keepsAct 20 = .ok (.getfield 130, 3) := by decide +kernel
theorem dX13_keepsAct_23 : decode cX13_keepsAct 23 = .ok (.iload_n 1, 1) := by decide +kernel
theorem dX13_keepsAct_24 : decode cX13_keepsAct 24 = .ok (.bipush 76, 2) := by decide +kernel
theorem dX13_keepsAct_26 : decode cX13_keepsAct 26 = .ok (.isub, 1) := by decide +kernel
theorem dX13_keepsAct_27 : decode cX13_keepsAct 27 = .ok (.aload_n 0, 1) := by decide +kernel
theorem dX13_keepsAct_28 : decode cX13_keepsAct 28 = .ok (.getfield 130, 3) := by decide +kernel
theorem dX13_keepsAct_31 : decode cX13_keepsAct 31 = .ok (.iload_n 1, 1) := by decide +kernel
theorem dX13_keepsAct_32 : decode cX13_keepsAct 32 = .ok (.iaload, 1) := by decide +kernel
theorem dX13_keepsAct_33 : decode cX13_keepsAct 33 = .ok (.iastore, 1) := by decide +kernel
theorem dX13_keepsAct_34 : decode cX13_keepsAct 34 = .ok (.iinc 1 1, 3) := by decide +kernel
theorem dX13_keepsAct_37 : decode cX13_keepsAct 37 = .ok (.goto (-25), 3) := by decide +kernel
theorem dX13_keepsAct_40 : decode cX13_keepsAct 40 = .ok (.aload_n 0, 1) := by decide +kernel
theorem dX13_keepsAct_41 : decode cX13_keepsAct 41 = .ok (.dup, 1) := by decide +kernel
theorem dX13_keepsAct_42 : decode cX13_keepsAct 42 = .ok (.getfield 331, 3) := by decide +kernel
theorem dX13_keepsAct_45 : decode cX13_keepsAct 45 = .ok (.iconst 1, 1) := by decide +kernel
theorem dX13_keepsAct_46 : decode cX13_keepsAct 46 = .ok (.isub, 1) := by decide +kernel
theorem dX13_keepsAct_47 : decode cX13_keepsAct 47 = .ok (.putfield 331, 3) := by decide +kernel
theorem dX13_keepsAct_50 : decode cX13_keepsAct 50 = .ok (.aload_n 0, 1) := by decide +kernel
theorem dX13_keepsAct_51 : decode cX13_keepsAct 51 = .ok (.aload_n 0, 1) := by decide +kernel
theorem dX13_keepsAct_52 : decode cX13_keepsAct 52 = .ok (.getfield 331, 3) := by decide +kernel
theorem dX13_keepsAct_55 : decode cX13_keepsAct 55 = .ok (.iconst 0, 1) := by decide +kernel
theorem dX13_keepsAct_56 : decode cX13_keepsAct 56 = .ok (.invokevirtual 426, 3) := by decide +kernel
theorem dX13_keepsAct_59 : decode cX13_keepsAct 59 = .ok (.aload_n 0, 1) := by decide +kernel
theorem dX13_keepsAct_60 : decode cX13_keepsAct 60 = .ok (.dup, 1) := by decide +kernel
theorem dX13_keepsAct_61 : decode cX13_keepsAct 61 = .ok (.getfield 331, 3) := by decide +kernel
theorem dX13_keepsAct_64 : decode cX13_keepsAct 64 = .ok (.iconst 1, 1) := by decide +kernel
theorem dX13_keepsAct_65 : decode cX13_keepsAct 65 = .ok (.iadd, 1) := by decide +kernel
theorem dX13_keepsAct_66 : decode cX13_keepsAct 66 = .ok (.putfield 331, 3) := by decide +kernel
theorem dX13_keepsAct_69 : decode cX13_keepsAct 69 = .ok (.return_, 1) := by decide +kernel
theorem dX13_undo_0 : decode cX13_undo 0 = .ok (.aload_n 0, 1) := by decide +kernel
theorem dX13_undo_1 : decode cX13_undo 1 = .ok (.getfield 331, 3) := by decide +kernel
theorem dX13_undo_4 : decode cX13_undo 4 = .ok (.ifCond .ne 6, 3) := by decide +kernel
theorem dX13_undo_7 : decode cX13_undo 7 = .ok (.bipush (-2), 2) := by decide +kernel
theorem dX13_undo_9 : decode cX13_undo 9 = .ok (.ireturn, 1) := by decide +kernel
theorem dX13_undo_10 : decode cX13_undo 10 = .ok (.aload_n 0, 1) := by decide +kernel
theorem dX13_undo_11 : decode cX13_undo 11 = .ok (.dup, 1) := by decide +kernel
theorem dX13_undo_12 : decode cX13_undo 12 = .ok (.getfield 331, 3) := by decide +kernel
theorem dX13_undo_15 : decode cX13_undo 15 = .ok (.iconst 1, 1) := by decide +kernel
theorem dX13_undo_16 : decode cX13_undo 16 = .ok (.isub, 1) := by decide +kernel
theorem dX13_undo_17 : decode cX13_undo 17 = .ok (.putfield 331, 3) := by decide +kernel
theorem dX13_undo_20 : decode cX13_undo 20 = .ok (.aload_n 0, 1) := by decide +kernel
theorem dX13_undo_21 : decode cX13_undo 21 = .ok (.aload_n 0, 1) := by decide +kernel
theorem dX13_undo_22 : decode cX13_undo 22 = .ok (.getfield 331, 3) := by decide +kernel
theorem dX13_undo_25 : decode cX13_undo 25 = .ok (.iconst 1, 1) := by decide +kernel
theorem dX13_undo_26 : decode cX13_undo 26 = .ok (.invokevirtual 426, 3) := by decide +kernel
theorem dX13_undo_29 : decode cX13_undo 29 = .ok (.aload_n 0, 1) := by decide +kernel
theorem dX13_undo_30 : decode cX13_undo 30 = .ok (.getfield 331, 3) := by decide +kernel
theorem dX13_undo_33 : decode cX13_undo 33 = .ok (.ireturn, 1) := by decide +kernel
theorem dX13_hour_0 : decode cX13_hour 0 = .ok (.aload_n 0, 1) := by decide +kernel
theorem dX13_hour_1 : decode cX13_hour 1 = .ok (.invokevirtual 430, 3) := by decide +kernel
theorem dX13_hour_4 : decode cX13_hour 4 = .ok (.ifCond .eq 15, 3) := by decide +kernel
theorem dX13_hour_7 : decode cX13_hour 7 = .ok (.aload_n 0, 1) := by decide +kernel
theorem dX13_hour_8 : decode cX13_hour 8 = .ok (.getfield 9, 3) := by decide +kernel
theorem dX13_hour_11 : decode cX13_hour 11 = .ok (.iconst 4, 1) := by decide +kernel
theorem dX13_hour_12 : decode cX13_hour 12 = .ok (.iaload, 1) := by decide +kernel
theorem dX13_hour_13 : decode cX13_hour 13 = .ok (.sipush 999, 3) := by decide +kernel
theorem dX13_hour_16 : decode cX13_hour 16 = .ok (.if_icmp .ne 5, 3) := by decide +kernel
theorem dX13_hour_19 : decode cX13_hour 19 = .ok (.iconst (-1), 1) := by decide +kernel
theorem dX13_hour_20 : decode cX13_hour 20 = .ok (.ireturn, 1) := by decide +kernel
theorem dX13_hour_21 : decode cX13_hour 21 = .ok (.aload_n 0, 1) := by decide +kernel
theorem dX13_hour_22 : decode cX13_hour 22 = .ok (.invokevirtual 433, 3) := by decide +kernel
theorem dX13_hour_25 : decode cX13_hour 25 = .ok (.aload_n 0, 1) := by decide +kernel
theorem dX13_hour_26 : decode cX13_hour 26 = .ok (.invokevirtual 409, 3) := by decide +kernel
theorem dX13_hour_29 : decode cX13_hour 29 = .ok (.ireturn, 1) := by decide +kernel
theorem dX13_stand_0 : decode cX13_stand 0 = .ok (.aload_n 0, 1) := by decide +kernel
theorem dX13_stand_1 : decode cX13_stand 1 = .ok (.iload_n 1, 1) := by decide +kernel
theorem dX13_stand_2 : decode cX13_stand 2 = .ok (.invokevirtual 364, 3) := by decide +kernel
theorem dX13_stand_5 : decode cX13_stand 5 = .ok (.ifCond .eq 21, 3) := by decide +kernel
theorem dX13_stand_8 : decode cX13_stand 8 = .ok (.aload_n 0, 1) := by decide +kernel
theorem dX13_stand_9 : decode cX13_stand 9 = .ok (.iload_n 2, 1) := by decide +kernel
theorem dX13_stand_10 : decode cX13_stand 10 = .ok (.invokevirtual 371, 3) := by decide +kernel
theorem dX13_stand_13 : decode cX13_stand 13 = .ok (.ifCond .eq 13, 3) := by decide +kernel
theorem dX13_stand_16 : decode cX13_stand 16 = .ok (.aload_n 0, 1) := by decide +kernel
theorem dX13_stand_17 : decode cX13_stand 17 = .ok (.getfield 13, 3) := by decide +kernel
theorem dX13_stand_20 : decode cX13_stand 20 = .ok (.iload_n 1, 1) := by decide +kernel
theorem dX13_stand_21 : decode cX13_stand 21 = .ok (.iaload, 1) := by decide +kernel
theorem dX13_stand_22 : decode cX13_stand 22 = .ok (.iload_n 2, 1) := by decide +kernel
theorem dX13_stand_23 : decode cX13_stand 23 = .ok (.if_icmp .ne 5, 3) := by decide +kernel
theorem dX13_stand_26 : decode cX13_stand 26 = .ok (.iconst (-1), 1) := by decide +kernel
theorem dX13_stand_27 : decode cX13_stand 27 = .ok (.ireturn, 1) := by decide +kernel
theorem dX13_stand_28 : decode cX13_stand 28 = .ok (.aload_n 0, 1) := by decide +kernel
theorem dX13_stand_29 : decode cX13_stand 29 = .ok (.invokevirtual 433, 3) := by decide +kernel
theorem dX13_stand_32 : decode cX13_stand 32 = .ok (.aload_n 0, 1) := by decide +kernel
theorem dX13_stand_33 : decode cX13_stand 33 = .ok (.getfield 13, 3) := by decide +kernel
theorem dX13_stand_36 : decode cX13_stand 36 = .ok (.iload_n 1, 1) := by decide +kernel
theorem dX13_stand_37 : decode cX13_stand 37 = .ok (.iaload, 1) := by decide +kernel
theorem dX13_stand_38 : decode cX13_stand 38 = .ok (.istore_n 3, 1) := by decide +kernel
theorem dX13_stand_39 : decode cX13_stand 39 = .ok (.aload_n 0, 1) := by decide +kernel
theorem dX13_stand_40 : decode cX13_stand 40 = .ok (.getfield 13, 3) := by decide +kernel
theorem dX13_stand_43 : decode cX13_stand 43 = .ok (.iload_n 1, 1) := by decide +kernel
theorem dX13_stand_44 : decode cX13_stand 44 = .ok (.iload_n 2, 1) := by decide +kernel
theorem dX13_stand_45 : decode cX13_stand 45 = .ok (.iastore, 1) := by decide +kernel
theorem dX13_stand_46 : decode cX13_stand 46 = .ok (.iload_n 3, 1) := by decide +kernel
theorem dX13_stand_47 : decode cX13_stand 47 = .ok (.ireturn, 1) := by decide +kernel
theorem dX13_collar_0 : decode cX13_collar 0 = .ok (.aload_n 0, 1) := by decide +kernel
theorem dX13_collar_1 : decode cX13_collar 1 = .ok (.iload_n 1, 1) := by decide +kernel
theorem dX13_collar_2 : decode cX13_collar 2 = .ok (.invokevirtual 364, 3) := by decide +kernel
theorem dX13_collar_5 : decode cX13_collar 5 = .ok (.ifCond .eq 25, 3) := by decide +kernel
theorem dX13_collar_8 : decode cX13_collar 8 = .ok (.iload_n 2, 1) := by decide +kernel
theorem dX13_collar_9 : decode cX13_collar 9 = .ok (.i2l, 1) := by decide +kernel
theorem dX13_collar_10 : decode cX13_collar 10 = .ok (.lconst 0, 1) := by decide +kernel
theorem dX13_collar_11 : decode cX13_collar 11 = .ok (.ldc2_w 436, 3) := by decide +kernel
theorem dX13_collar_14 : decode cX13_collar 14 = .ok (.invokestatic 161, 3) := by decide +kernel
theorem dX13_collar_17 : decode cX13_collar 17 = .ok (.ifCond .eq 13, 3) := by decide +kernel
theorem dX13_collar_20 : decode cX13_collar 20 = .ok (.aload_n 0, 1) := by decide +kernel
theorem dX13_collar_21 : decode cX13_collar 21 = .ok (.getfield 16, 3) := by decide +kernel
theorem dX13_collar_24 : decode cX13_collar 24 = .ok (.iload_n 1, 1) := by decide +kernel
theorem dX13_collar_25 : decode cX13_collar 25 = .ok (.iaload, 1) := by decide +kernel
theorem dX13_collar_26 : decode cX13_collar 26 = .ok (.iload_n 2, 1) := by decide +kernel
theorem dX13_collar_27 : decode cX13_collar 27 = .ok (.if_icmp .ne 5, 3) := by decide +kernel
theorem dX13_collar_30 : decode cX13_collar 30 = .ok (.iconst (-1), 1) := by decide +kernel
theorem dX13_collar_31 : decode cX13_collar 31 = .ok (.ireturn, 1) := by decide +kernel
theorem dX13_collar_32 : decode cX13_collar 32 = .ok (.aload_n 0, 1) := by decide +kernel
theorem dX13_collar_33 : decode cX13_collar 33 = .ok (.invokevirtual 433, 3) := by decide +kernel
theorem dX13_collar_36 : decode cX13_collar 36 = .ok (.aload_n 0, 1) := by decide +kernel
theorem dX13_collar_37 : decode cX13_collar 37 = .ok (.getfield 16, 3) := by decide +kernel
theorem dX13_collar_40 : decode cX13_collar 40 = .ok (.iload_n 1, 1) := by decide +kernel
theorem dX13_collar_41 : decode cX13_collar 41 = .ok (.iaload, 1) := by decide +kernel
theorem dX13_collar_42 : decode cX13_collar 42 = .ok (.istore_n 3, 1) := by decide +kernel
theorem dX13_collar_43 : decode cX13_collar 43 = .ok (.aload_n 0, 1) := by decide +kernel
theorem dX13_collar_44 : decode cX13_collar 44 = .ok (.getfield 16, 3) := by decide +kernel
theorem dX13_collar_47 : decode cX13_collar 47 = .ok (.iload_n 1, 1) := by decide +kernel
theorem dX13_collar_48 : decode cX13_collar 48 = .ok (.iload_n 2, 1) := by decide +kernel
theorem dX13_collar_49 : decode cX13_collar 49 = .ok (.iastore, 1) := by decide +kernel
theorem dX13_collar_50 : decode cX13_collar 50 = .ok (.iload_n 3, 1) := by decide +kernel
theorem dX13_collar_51 : decode cX13_collar 51 = .ok (.ireturn, 1) := by decide +kernel
theorem dX13_shuts_0 : decode cX13_shuts 0 = .ok (.aload_n 0, 1) := by decide +kernel
theorem dX13_shuts_1 : decode cX13_shuts 1 = .ok (.getfield 34, 3) := by decide +kernel
theorem dX13_shuts_4 : decode cX13_shuts 4 = .ok (.iload_n 1, 1) := by decide +kernel
theorem dX13_shuts_5 : decode cX13_shuts 5 = .ok (.dup2, 1) := by decide +kernel
theorem dX13_shuts_6 : decode cX13_shuts 6 = .ok (.iaload, 1) := by decide +kernel
theorem dX13_shuts_7 : decode cX13_shuts 7 = .ok (.iconst 1, 1) := by decide +kernel
theorem dX13_shuts_8 : decode cX13_shuts 8 = .ok (.iload_n 2, 1) := by decide +kernel
theorem dX13_shuts_9 : decode cX13_shuts 9 = .ok (.ishl, 1) := by decide +kernel
theorem dX13_shuts_10 : decode cX13_shuts 10 = .ok (.ixor, 1) := by decide +kernel
theorem dX13_shuts_11 : decode cX13_shuts 11 = .ok (.iastore, 1) := by decide +kernel
theorem dX13_shuts_12 : decode cX13_shuts 12 = .ok (.aload_n 0, 1) := by decide +kernel
theorem dX13_shuts_13 : decode cX13_shuts 13 = .ok (.getfield 34, 3) := by decide +kernel
theorem dX13_shuts_16 : decode cX13_shuts 16 = .ok (.iload_n 2, 1) := by decide +kernel
theorem dX13_shuts_17 : decode cX13_shuts 17 = .ok (.dup2, 1) := by decide +kernel
theorem dX13_shuts_18 : decode cX13_shuts 18 = .ok (.iaload, 1) := by decide +kernel
theorem dX13_shuts_19 : decode cX13_shuts 19 = .ok (.iconst 1, 1) := by decide +kernel
theorem dX13_shuts_20 : decode cX13_shuts 20 = .ok (.iload_n 1, 1) := by decide +kernel
theorem dX13_shuts_21 : decode cX13_shuts 21 = .ok (.ishl, 1) := by decide +kernel
theorem dX13_shuts_22 : decode cX13_shuts 22 = .ok (.ixor, 1) := by decide +kernel
theorem dX13_shuts_23 : decode cX13_shuts 23 = .ok (.iastore, 1) := by decide +kernel
theorem dX13_shuts_24 : decode cX13_shuts 24 = .ok (.return_, 1) := by decide +kernel
theorem dX13_shut_0 : decode cX13_shut 0 = .ok (.aload_n 0, 1) := by decide +kernel
theorem dX13_shut_1 : decode cX13_shut 1 = .ok (.iload_n 1, 1) := by decide +kernel
theorem dX13_shut_2 : decode cX13_shut 2 = .ok (.invokevirtual 371, 3) := by decide +kernel
theorem dX13_shut_5 : decode cX13_shut 5 = .ok (.ifCond .eq 24, 3) := by decide +kernel
theorem dX13_shut_8 : decode cX13_shut 8 = .ok (.aload_n 0, 1) := by decide +kernel
theorem dX13_shut_9 : decode cX13_shut 9 = .ok (.iload_n 2, 1) := by decide +kernel
theorem dX13_shut_10 : decode cX13_shut 10 = .ok (.invokevirtual 371, 3) := by decide +kernel
theorem dX13_shut_13 : decode cX13_shut 13 = .ok (.ifCond .eq 16, 3) := by decide +kernel
theorem dX13_shut_16 : decode cX13_shut 16 = .ok (.aload_n 0, 1) := by decide +kernel
theorem dX13_shut_17 : decode cX13_shut 17 = .ok (.getfield 64, 3) := by decide +kernel
theorem dX13_shut_20 : decode cX13_shut 20 = .ok (.iload_n 1, 1) := by decide +kernel
theorem dX13_shut_21 : decode cX13_shut 21 = .ok (.iaload, 1) := by decide +kernel
theorem dX13_shut_22 : decode cX13_shut 22 = .ok (.iload_n 2, 1) := by decide +kernel
theorem dX13_shut_23 : decode cX13_shut 23 = .ok (.invokestatic 374, 3) := by decide +kernel
theorem dX13_shut_26 : decode cX13_shut 26 = .ok (.ifCond .ne 5, 3) := by decide +kernel
theorem dX13_shut_29 : decode cX13_shut 29 = .ok (.iconst (-1), 1) := by decide +kernel
theorem dX13_shut_30 : decode cX13_shut 30 = .ok (.ireturn, 1) := by decide +kernel
theorem dX13_shut_31 : decode cX13_shut 31 = .ok (.aload_n 0, 1) := by decide +kernel
theorem dX13_shut_32 : decode cX13_shut 32 = .ok (.invokevirtual 433, 3) := by decide +kernel
theorem dX13_shut_35 : decode cX13_shut 35 = .ok (.aload_n 0, 1) := by decide +kernel
theorem dX13_shut_36 : decode cX13_shut 36 = .ok (.iload_n 1, 1) := by decide +kernel
theorem dX13_shut_37 : decode cX13_shut 37 = .ok (.iload_n 2, 1) := by decide +kernel
theorem dX13_shut_38 : decode cX13_shut 38 = .ok (.invokevirtual 438, 3) := by decide +kernel
theorem dX13_shut_41 : decode cX13_shut 41 = .ok (.aload_n 0, 1) := by decide +kernel
theorem dX13_shut_42 : decode cX13_shut 42 = .ok (.getfield 34, 3) := by decide +kernel
theorem dX13_shut_45 : decode cX13_shut 45 = .ok (.iload_n 1, 1) := by decide +kernel
theorem dX13_shut_46 : decode cX13_shut 46 = .ok (.iaload, 1) := by decide +kernel
theorem dX13_shut_47 : decode cX13_shut 47 = .ok (.iload_n 2, 1) := by decide +kernel
theorem dX13_shut_48 : decode cX13_shut 48 = .ok (.invokestatic 374, 3) := by decide +kernel
theorem dX13_shut_51 : decode cX13_shut 51 = .ok (.ifCond .eq 7, 3) := by decide +kernel
theorem dX13_shut_54 : decode cX13_shut 54 = .ok (.iconst 0, 1) := by decide +kernel
theorem dX13_shut_55 : decode cX13_shut 55 = .ok (.goto 4, 3) := by decide +kernel
theorem dX13_shut_58 : decode cX13_shut 58 = .ok (.iconst 1, 1) := by decide +kernel
theorem dX13_shut_59 : decode cX13_shut 59 = .ok (.ireturn, 1) := by decide +kernel
theorem dX13_hunt_0 : decode cX13_hunt 0 = .ok (.aload_n 0, 1) := by decide +kernel
theorem dX13_hunt_1 : decode cX13_hunt 1 = .ok (.iload_n 1, 1) := by decide +kernel
theorem dX13_hunt_2 : decode cX13_hunt 2 = .ok (.invokevirtual 368, 3) := by decide +kernel
theorem dX13_hunt_5 : decode cX13_hunt 5 = .ok (.ifCond .eq 13, 3) := by decide +kernel
theorem dX13_hunt_8 : decode cX13_hunt 8 = .ok (.aload_n 0, 1) := by decide +kernel
theorem dX13_hunt_9 : decode cX13_hunt 9 = .ok (.getfield 28, 3) := by decide +kernel
theorem dX13_hunt_12 : decode cX13_hunt 12 = .ok (.iload_n 1, 1) := by decide +kernel
theorem dX13_hunt_13 : decode cX13_hunt 13 = .ok (.iaload, 1) := by decide +kernel
theorem dX13_hunt_14 : decode cX13_hunt 14 = .ok (.iconst (-1), 1) := by decide +kernel
theorem dX13_hunt_15 : decode cX13_hunt 15 = .ok (.if_icmp .ne 5, 3) := by decide +kernel
theorem dX13_hunt_18 : decode cX13_hunt 18 = .ok (.iconst (-1), 1) := by decide +kernel
theorem dX13_hunt_19 : decode cX13_hunt 19 = .ok (.ireturn, 1) := by decide +kernel
theorem dX13_hunt_20 : decode cX13_hunt 20 = .ok (.aload_n 0, 1) := by decide +kernel
theorem dX13_hunt_21 : decode cX13_hunt 21 = .ok (.invokevirtual 433, 3) := by decide +kernel
theorem dX13_hunt_24 : decode cX13_hunt 24 = .ok (.aload_n 0, 1) := by decide +kernel
theorem dX13_hunt_25 : decode cX13_hunt 25 = .ok (.getfield 28, 3) := by decide +kernel
theorem dX13_hunt_28 : decode cX13_hunt 28 = .ok (.iload_n 1, 1) := by decide +kernel
theorem dX13_hunt_29 : decode cX13_hunt 29 = .ok (.iaload, 1) := by decide +kernel
theorem dX13_hunt_30 : decode cX13_hunt 30 = .ok (.istore_n 2, 1) := by decide +kernel
theorem dX13_hunt_31 : decode cX13_hunt 31 = .ok (.aload_n 0, 1) := by decide +kernel
theorem dX13_hunt_32 : decode cX13_hunt 32 = .ok (.getfield 28, 3) := by decide +kernel
theorem dX13_hunt_35 : decode cX13_hunt 35 = .ok (.iload_n 1, 1) := by decide +kernel
theorem dX13_hunt_36 : decode cX13_hunt 36 = .ok (.iconst (-1), 1) := by decide +kernel
theorem dX13_hunt_37 : decode cX13_hunt 37 = .ok (.iastore, 1) := by decide +kernel
theorem dX13_hunt_38 : decode cX13_hunt 38 = .ok (.iload_n 2, 1) := by decide +kernel
theorem dX13_hunt_39 : decode cX13_hunt 39 = .ok (.ireturn, 1) := by decide +kernel
theorem dX13_keepsAll_0 : decode cX13_keepsAll 0 = .ok (.aload_n 0, 1) := by decide +kernel
theorem dX13_keepsAll_1 : decode cX13_keepsAll 1 = .ok (.iconst 4, 1) := by decide +kernel
theorem dX13_keepsAll_2 : decode cX13_keepsAll 2 = .ok (.iconst 0, 1) := by decide +kernel
theorem dX13_keepsAll_3 : decode cX13_keepsAll 3 = .ok (.invokevirtual 441, 3) := by decide +kernel
theorem dX13_keepsAll_6 : decode cX13_keepsAll 6 = .ok (.return_, 1) := by decide +kernel
theorem dX13_laysBack_0 : decode cX13_laysBack 0 = .ok (.aload_n 0, 1) := by decide +kernel
theorem dX13_laysBack_1 : decode cX13_laysBack 1 = .ok (.iconst 4, 1) := by decide +kernel
theorem dX13_laysBack_2 : decode cX13_laysBack 2 = .ok (.iconst 1, 1) := by decide +kernel
theorem dX13_laysBack_3 : decode cX13_laysBack 3 = .ok (.invokevirtual 441, 3) := by decide +kernel
theorem dX13_laysBack_6 : decode cX13_laysBack 6 = .ok (.return_, 1) := by decide +kernel
theorem dX13_ahead_0 : decode cX13_ahead 0 = .ok (.iload_n 3, 1) := by decide +kernel
theorem dX13_ahead_1 : decode cX13_ahead 1 = .ok (.ifCond .ne 11, 3) := by decide +kernel
theorem dX13_ahead_4 : decode cX13_ahead 4 = .ok (.aload_n 0, 1) := by decide +kernel
theorem dX13_ahead_5 : decode cX13_ahead 5 = .ok (.iload_n 1, 1) := by decide +kernel
theorem dX13_ahead_6 : decode cX13_ahead 6 = .ok (.invokevirtual 364, 3) := by decide +kernel
theorem dX13_ahead_9 : decode cX13_ahead 9 = .ok (.ifCond .ne 30, 3) := by decide +kernel
theorem dX13_ahead_12 : decode cX13_ahead 12 = .ok (.iload_n 3, 1) := by decide +kernel
theorem dX13_ahead_13 : decode cX13_ahead 13 = .ok (.iconst 1, 1) := by decide +kernel
theorem dX13_ahead_14 : decode cX13_ahead 14 = .ok (.if_icmp .ne 11, 3) := by decide +kernel
theorem dX13_ahead_17 : decode cX13_ahead 17 = .ok (.aload_n 0, 1) := by decide +kernel
theorem dX13_ahead_18 : decode cX13_ahead 18 = .ok (.iload_n 1, 1) := by decide +kernel
theorem dX13_ahead_19 : decode cX13_ahead 19 = .ok (.invokevirtual 368, 3) := by decide +kernel
theorem dX13_ahead_22 : decode cX13_ahead 22 = .ok (.ifCond .ne 17, 3) := by decide +kernel
theorem dX13_ahead_25 : decode cX13_ahead 25 = .ok (.iload_n 3, 1) := by decide +kernel
theorem dX13_ahead_26 : decode cX13_ahead 26 = .ok (.i2l, 1) := by decide +kernel
theorem dX13_ahead_27 : decode cX13_ahead 27 = .ok (.ldc2_w 444, 3) := by decide +kernel
theorem dX13_ahead_30 : decode cX13_ahead 30 = .ok (.ldc2_w 446, 3) := by decide +kernel
theorem dX13_ahead_33 : decode cX13_ahead 33 = .ok (.invokestatic 161, 3) := by decide +kernel
theorem dX13_ahead_36 : decode cX13_ahead 36 = .ok (.ifCond .eq 7, 3) := by decide +kernel
theorem dX13_ahead_39 : decode cX13_ahead 39 = .ok (.iconst 1, 1) := by decide +kernel
theorem dX13_ahead_40 : decode cX13_ahead 40 = .ok (.goto 4, 3) := by decide +kernel
theorem dX13_ahead_43 : decode cX13_ahead 43 = .ok (.iconst 0, 1) := by decide +kernel
theorem dX13_ahead_44 : decode cX13_ahead 44 = .ok (.istore 4, 2) := by decide +kernel
theorem dX13_ahead_46 : decode cX13_ahead 46 = .ok (.aload_n 0, 1) := by decide +kernel
theorem dX13_ahead_47 : decode cX13_ahead 47 = .ok (.invokevirtual 430, 3) := by decide +kernel
theorem dX13_ahead_50 : decode cX13_ahead 50 = .ok (.ifCond .eq 20, 3) := by decide +kernel
theorem dX13_ahead_53 : decode cX13_ahead 53 = .ok (.iload 4, 2) := by decide +kernel
theorem dX13_ahead_55 : decode cX13_ahead 55 = .ok (.ifCond .eq 15, 3) := by decide +kernel
theorem dX13_ahead_58 : decode cX13_ahead 58 = .ok (.iload_n 2, 1) := by decide +kernel
theorem dX13_ahead_59 : decode cX13_ahead 59 = .ok (.i2l, 1) := by decide +kernel
theorem dX13_ahead_60 : decode cX13_ahead 60 = .ok (.lconst 0, 1) := by decide +kernel
theorem dX13_ahead_61 : decode cX13_ahead 61 = .ok (.ldc2_w 448, 3) := by decide +kernel
theorem dX13_ahead_64 : decode cX13_ahead 64 = .ok (.invokestatic 161, 3) := by decide +kernel
theorem dX13_ahead_67 : decode cX13_ahead 67 = .ok (.ifCond .ne 6, 3) := by decide +kernel
theorem dX13_ahead_70 : decode cX13_ahead 70 = .ok (.bipush (-2), 2) := by decide +kernel
theorem dX13_ahead_72 : decode cX13_ahead 72 = .ok (.ireturn, 1) := by decide +kernel
theorem dX13_ahead_73 : decode cX13_ahead 73 = .ok (.aload_n 0, 1) := by decide +kernel
theorem dX13_ahead_74 : decode cX13_ahead 74 = .ok (.invokevirtual 450, 3) := by decide +kernel
theorem dX13_ahead_77 : decode cX13_ahead 77 = .ok (.aload_n 0, 1) := by decide +kernel
theorem dX13_ahead_78 : decode cX13_ahead 78 = .ok (.iload_n 2, 1) := by decide +kernel
theorem dX13_ahead_79 : decode cX13_ahead 79 = .ok (.invokevirtual 453, 3) := by decide +kernel
theorem dX13_ahead_82 : decode cX13_ahead 82 = .ok (.iload_n 3, 1) := by decide +kernel
theorem dX13_ahead_83 : decode cX13_ahead 83 = .ok (.ifCond .ne 12, 3) := by decide +kernel
theorem dX13_ahead_86 : decode cX13_ahead 86 = .ok (.aload_n 0, 1) := by decide +kernel
theorem dX13_ahead_87 : decode cX13_ahead 87 = .ok (.getfield 22, 3) := by decide +kernel
theorem dX13_ahead_90 : decode cX13_ahead 90 = .ok (.iload_n 1, 1) := by decide +kernel
theorem dX13_ahead_91 : decode cX13_ahead 91 = .ok (.iaload, 1) := by decide +kernel
theorem dX13_ahead_92 : decode cX13_ahead 92 = .ok (.goto 38, 3) := by decide +kernel
theorem dX13_ahead_95 : decode cX13_ahead 95 = .ok (.iload_n 3, 1) := by decide +kernel
theorem dX13_ahead_96 : decode cX13_ahead 96 = .ok (.iconst 1, 1) := by decide +kernel
theorem dX13_ahead_97 : decode cX13_ahead 97 = .ok (.if_icmp .ne 12, 3) := by decide +kernel
theorem dX13_ahead_100 : decode cX13_ahead 100 = .ok (.aload_n 0, 1) := by decide +kernel
theorem dX13_ahead_101 : decode cX13_ahead 101 = .ok (.getfield 28, 3) := by decide +kernel
theorem dX13_ahead_104 : decode cX13_ahead 104 = .ok (.iload_n 1, 1) := by decide +kernel
theorem dX13_ahead_105 : decode cX13_ahead 105 = .ok (.iaload, 1) := by decide +kernel
theorem dX13_ahead_106 : decode cX13_ahead 106 = .ok (.goto 24, 3) := by decide +kernel
theorem dX13_ahead_109 : decode cX13_ahead 109 = .ok (.iload_n 3, 1) := by decide +kernel
theorem dX13_ahead_110 : decode cX13_ahead 110 = .ok (.iconst 2, 1) := by decide +kernel
theorem dX13_ahead_111 : decode cX13_ahead 111 = .ok (.if_icmp .ne 13, 3) := by decide +kernel
theorem dX13_ahead_114 : decode cX13_ahead 114 = .ok (.aload_n 0, 1) := by decide +kernel
theorem dX13_ahead_115 : decode cX13_ahead 115 = .ok (.getfield 9, 3) := by decide +kernel
theorem dX13_ahead_118 : decode cX13_ahead 118 = .ok (.bipush 6, 2) := by decide +kernel
theorem dX13_ahead_120 : decode cX13_ahead 120 = .ok (.iaload, 1) := by decide +kernel
theorem dX13_ahead_121 : decode cX13_ahead 121 = .ok (.goto 9, 3) := by decide +kernel
theorem dX13_ahead_124 : decode cX13_ahead 124 = .ok (.aload_n 0, 1) := by decide +kernel
theorem dX13_ahead_125 : decode cX13_ahead 125 = .ok (.getfield 9, 3) := by decide +kernel
theorem dX13_ahead_128 : decode cX13_ahead 128 = .ok (.iconst 5, 1) := by decide +kernel
theorem dX13_ahead_129 : decode cX13_ahead 129 = .ok (.iaload, 1) := by decide +kernel
theorem dX13_ahead_130 : decode cX13_ahead 130 = .ok (.istore 5, 2) := by decide +kernel
theorem dX13_ahead_132 : decode cX13_ahead 132 = .ok (.aload_n 0, 1) := by decide +kernel
theorem dX13_ahead_133 : decode cX13_ahead 133 = .ok (.invokevirtual 456, 3) := by decide +kernel
theorem dX13_ahead_136 : decode cX13_ahead 136 = .ok (.iload 5, 2) := by decide +kernel
theorem dX13_ahead_138 : decode cX13_ahead 138 = .ok (.ireturn, 1) := by decide +kernel
theorem dX13_mayor_0 : decode cX13_mayor 0 = .ok (.aload_n 0, 1) := by decide +kernel
theorem dX13_mayor_1 : decode cX13_mayor 1 = .ok (.iload_n 1, 1) := by decide +kernel
theorem dX13_mayor_2 : decode cX13_mayor 2 = .ok (.invokevirtual 364, 3) := by decide +kernel
theorem dX13_mayor_5 : decode cX13_mayor 5 = .ok (.ifCond .ne 5, 3) := by decide +kernel
theorem dX13_mayor_8 : decode cX13_mayor 8 = .ok (.iconst (-1), 1) := by decide +kernel
theorem dX13_mayor_9 : decode cX13_mayor 9 = .ok (.ireturn, 1) := by decide +kernel
theorem dX13_mayor_10 : decode cX13_mayor 10 = .ok (.aload_n 0, 1) := by decide +kernel
theorem dX13_mayor_11 : decode cX13_mayor 11 = .ok (.invokevirtual 450, 3) := by decide +kernel
theorem dX13_mayor_14 : decode cX13_mayor 14 = .ok (.bipush (-2), 2) := by decide +kernel
theorem dX13_mayor_16 : decode cX13_mayor 16 = .ok (.istore_n 2, 1) := by decide +kernel
theorem dX13_mayor_17 : decode cX13_mayor 17 = .ok (.iconst 0, 1) := by decide +kernel
theorem dX13_mayor_18 : decode cX13_mayor 18 = .ok (.istore_n 3, 1) := by decide +kernel
theorem dX13_mayor_19 : decode cX13_mayor 19 = .ok (.iload_n 3, 1) := by decide +kernel
theorem dX13_mayor_20 : decode cX13_mayor 20 = .ok (.bipush 100, 2) := by decide +kernel
theorem dX13_mayor_22 : decode cX13_mayor 22 = .ok (.if_icmp .ge 42, 3) := by decide +kernel
theorem dX13_mayor_25 : decode cX13_mayor 25 = .ok (.iload_n 2, 1) := by decide +kernel
theorem dX13_mayor_26 : decode cX13_mayor 26 = .ok (.bipush (-2), 2) := by decide +kernel
theorem dX13_mayor_28 : decode cX13_mayor 28 = .ok (.if_icmp .ne 36, 3) := by decide +kernel
theorem dX13_mayor_31 : decode cX13_mayor 31 = .ok (.aload_n 0, 1) := by decide +kernel
theorem dX13_mayor_32 : decode cX13_mayor 32 = .ok (.getfield 9, 3) := by decide +kernel
theorem dX13_mayor_35 : decode cX13_mayor 35 = .ok (.iconst 5, 1) := by decide +kernel
theorem dX13_mayor_36 : decode cX13_mayor 36 = .ok (.iaload, 1) := by decide +kernel
theorem dX13_mayor_37 : decode cX13_mayor 37 = .ok (.iload_n 1, 1) := by decide +kernel
theorem dX13_mayor_38 : decode cX13_mayor 38 = .ok (.if_icmp .ne 12, 3) := by decide +kernel
theorem dX13_mayor_41 : decode cX13_mayor 41 = .ok (.aload_n 0, 1) := by decide +kernel
theorem dX13_mayor_42 : decode cX13_mayor 42 = .ok (.getfield 9, 3) := by decide +kernel
theorem dX13_mayor_45 : decode cX13_mayor 45 = .ok (.iconst 4, 1) := by decide +kernel
theorem dX13_mayor_46 : decode cX13_mayor 46 = .ok (.iaload, 1) := by decide +kernel
theorem dX13_mayor_47 : decode cX13_mayor 47 = .ok (.goto 5, 3) := by decide +kernel
theorem dX13_mayor_50 : decode cX13_mayor 50 = .ok (.bipush (-2), 2) := by decide +kernel
theorem dX13_mayor_52 : decode cX13_mayor 52 = .ok (.istore_n 2, 1) := by decide +kernel
theorem dX13_mayor_53 : decode cX13_mayor 53 = .ok (.aload_n 0, 1) := by decide +kernel
theorem dX13_mayor_54 : decode cX13_mayor 54 = .ok (.invokevirtual 409, 3) := by decide +kernel
theorem dX13_mayor_57 : decode cX13_mayor 57 = .ok (.pop, 1) := by decide +kernel
theorem dX13_mayor_58 : decode cX13_mayor 58 = .ok (.iinc 3 1, 3) := by decide +kernel
theorem dX13_mayor_61 : decode cX13_mayor 61 = .ok (.goto (-42), 3) := by decide +kernel
theorem dX13_mayor_64 : decode cX13_mayor 64 = .ok (.aload_n 0, 1) := by decide +kernel
theorem dX13_mayor_65 : decode cX13_mayor 65 = .ok (.invokevirtual 456, 3) := by decide +kernel
theorem dX13_mayor_68 : decode cX13_mayor 68 = .ok (.iload_n 2, 1) := by decide +kernel
theorem dX13_mayor_69 : decode cX13_mayor 69 = .ok (.ireturn, 1) := by decide +kernel
theorem dX13_askedIn_0 : decode cX13_askedIn 0 = .ok (.aload_n 0, 1) := by decide +kernel
theorem dX13_askedIn_1 : decode cX13_askedIn 1 = .ok (.getfield 22, 3) := by decide +kernel
theorem dX13_askedIn_4 : decode cX13_askedIn 4 = .ok (.iload_n 1, 1) := by decide +kernel
theorem dX13_askedIn_5 : decode cX13_askedIn 5 = .ok (.iaload, 1) := by decide +kernel
theorem dX13_askedIn_6 : decode cX13_askedIn 6 = .ok (.istore_n 3, 1) := by decide +kernel
theorem dX13_askedIn_7 : decode cX13_askedIn 7 = .ok (.aload_n 0, 1) := by decide +kernel
theorem dX13_askedIn_8 : decode cX13_askedIn 8 = .ok (.iload_n 2, 1) := by decide +kernel
theorem dX13_askedIn_9 : decode cX13_askedIn 9 = .ok (.invokevirtual 453, 3) := by decide +kernel
theorem dX13_askedIn_12 : decode cX13_askedIn 12 = .ok (.aload_n 0, 1) := by decide +kernel
theorem dX13_askedIn_13 : decode cX13_askedIn 13 = .ok (.getfield 22, 3) := by decide +kernel
theorem dX13_askedIn_16 : decode cX13_askedIn 16 = .ok (.iload_n 1, 1) := by decide +kernel
theorem dX13_askedIn_17 : decode cX13_askedIn 17 = .ok (.iaload, 1) := by decide +kernel
theorem dX13_askedIn_18 : decode cX13_askedIn 18 = .ok (.iload_n 3, 1) := by decide +kernel
theorem dX13_askedIn_19 : decode cX13_askedIn 19 = .ok (.isub, 1) := by decide +kernel
theorem dX13_askedIn_20 : decode cX13_askedIn 20 = .ok (.istore 4, 2) := by decide +kernel
theorem dX13_askedIn_22 : decode cX13_askedIn 22 = .ok (.aload_n 0, 1) := by decide +kernel
theorem dX13_askedIn_23 : decode cX13_askedIn 23 = .ok (.invokevirtual 456, 3) := by decide +kernel
theorem dX13_askedIn_26 : decode cX13_askedIn 26 = .ok (.iload 4, 2) := by decide +kernel
theorem dX13_askedIn_28 : decode cX13_askedIn 28 = .ok (.ireturn, 1) := by decide +kernel
theorem dX13_pitch_0 : decode cX13_pitch 0 = .ok (.aload_n 0, 1) := by decide +kernel
theorem dX13_pitch_1 : decode cX13_pitch 1 = .ok (.iload_n 1, 1) := by decide +kernel
theorem dX13_pitch_2 : decode cX13_pitch 2 = .ok (.invokevirtual 364, 3) := by decide +kernel
theorem dX13_pitch_5 : decode cX13_pitch 5 = .ok (.ifCond .eq 25, 3) := by decide +kernel
theorem dX13_pitch_8 : decode cX13_pitch 8 = .ok (.iload_n 2, 1) := by decide +kernel
theorem dX13_pitch_9 : decode cX13_pitch 9 = .ok (.i2l, 1) := by decide +kernel
theorem dX13_pitch_10 : decode cX13_pitch 10 = .ok (.lconst 1, 1) := by decide +kernel
theorem dX13_pitch_11 : decode cX13_pitch 11 = .ok (.ldc2_w 459, 3) := by decide +kernel
theorem dX13_pitch_14 : decode cX13_pitch 14 = .ok (.invokestatic 161, 3) := by decide +kernel
theorem dX13_pitch_17 : decode cX13_pitch 17 = .ok (.ifCond .eq 13, 3) := by decide +kernel
theorem dX13_pitch_20 : decode cX13_pitch 20 = .ok (.iload_n 3, 1) := by decide +kernel
theorem dX13_pitch_21 : decode cX13_pitch 21 = .ok (.i2l, 1) := by decide +kernel
theorem dX13_pitch_22 : decode cX13_pitch 22 = .ok (.lconst 0, 1) := by decide +kernel
theorem dX13_pitch_23 : decode cX13_pitch 23 = .ok (.lconst 1, 1) := by decide +kernel
theorem dX13_pitch_24 : decode cX13_pitch 24 = .ok (.invokestatic 161, 3) := by decide +kernel
theorem dX13_pitch_27 : decode cX13_pitch 27 = .ok (.ifCond .ne 5, 3) := by decide +kernel
theorem dX13_pitch_30 : decode cX13_pitch 30 = .ok (.iconst (-1), 1) := by decide +kernel
theorem dX13_pitch_31 : decode cX13_pitch 31 = .ok (.ireturn, 1) := by decide +kernel
theorem dX13_pitch_32 : decode cX13_pitch 32 = .ok (.iconst (-1), 1) := by decide +kernel
theorem dX13_pitch_33 : decode cX13_pitch 33 = .ok (.istore 4, 2) := by decide +kernel
theorem dX13_pitch_35 : decode cX13_pitch 35 = .ok (.iconst (-1), 1) := by decide +kernel
theorem dX13_pitch_36 : decode cX13_pitch 36 = .ok (.istore 5, 2) := by decide +kernel
theorem dX13_pitch_38 : decode cX13_pitch 38 = .ok (.aload_n 0, 1) := by decide +kernel
theorem dX13_pitch_39 : decode cX13_pitch 39 = .ok (.invokevirtual 450, 3) := by decide +kernel
theorem dX13_pitch_42 : decode cX13_pitch 42 = .ok (.iconst 0, 1) := by decide +kernel
theorem dX13_pitch_43 : decode cX13_pitch 43 = .ok (.istore 6, 2) := by decide +kernel
theorem dX13_pitch_45 : decode cX13_pitch 45 = .ok (.iload 6, 2) := by decide +kernel
theorem dX13_pitch_47 : decode cX13_pitch 47 = .ok (.aload_n 0, 1) := by decide +kernel
theorem dX13_pitch_48 : decode cX13_pitch 48 = .ok (.getfield 9, 3) := by decide +kernel
theorem dX13_pitch_51 : decode cX13_pitch 51 = .ok (.iconst 0, 1) := by decide +kernel
theorem dX13_pitch_52 : decode cX13_pitch 52 = .ok (.iaload, 1) := by decide +kernel
theorem dX13_pitch_53 : decode cX13_pitch 53 = .ok (.if_icmp .ge 40, 3) := by decide +kernel
theorem dX13_pitch_56 : decode cX13_pitch 56 = .ok (.aload_n 0, 1) := by decide +kernel
theorem dX13_pitch_57 : decode cX13_pitch 57 = .ok (.getfield 13, 3) := by decide +kernel
theorem dX13_pitch_60 : decode cX13_pitch 60 = .ok (.iload_n 1, 1) := by decide +kernel
theorem dX13_pitch_61 : decode cX13_pitch 61 = .ok (.iload 6, 2) := by decide +kernel
theorem dX13_pitch_63 : decode cX13_pitch 63 = .ok (.iastore, 1) := by decide +kernel
theorem dX13_pitch_64 : decode cX13_pitch 64 = .ok (.aload_n 0, 1) := by decide +kernel
theorem dX13_pitch_65 : decode cX13_pitch 65 = .ok (.iload_n 1, 1) := by decide +kernel
theorem dX13_pitch_66 : decode cX13_pitch 66 = .ok (.iload_n 2, 1) := by decide +kernel
theorem dX13_pitch_67 : decode cX13_pitch 67 = .ok (.invokevirtual 461, 3) := by decide +kernel
theorem dX13_pitch_70 : decode cX13_pitch 70 = .ok (.istore 7, 2) := by decide +kernel
theorem dX13_pitch_72 : decode cX13_pitch 72 = .ok (.iload 7, 2) := by decide +kernel
theorem dX13_pitch_74 : decode cX13_pitch 74 = .ok (.iload 5, 2) := by decide +kernel
theorem dX13_pitch_76 : decode cX13_pitch 76 = .ok (.if_icmp .le 11, 3) := by decide +kernel
theorem dX13_pitch_79 : decode cX13_pitch 79 = .ok (.iload 6, 2) := by decide +kernel
theorem dX13_pitch_81 : decode cX13_pitch 81 = .ok (.istore 4, 2) := by decide +kernel
theorem dX13_pitch_83 : decode cX13_pitch 83 = .ok (.iload 7, 2) := by decide +kernel
theorem dX13_pitch_85 : decode cX13_pitch 85 = .ok (.istore 5, 2) := by decide +kernel
theorem dX13_pitch_87 : decode cX13_pitch 87 = .ok (.iinc 6 1, 3) := by decide +kernel
theorem dX13_pitch_90 : decode cX13_pitch 90 = .ok (.goto (-45), 3) := by decide +kernel
theorem dX13_pitch_93 : decode cX13_pitch 93 = .ok (.iload_n 3, 1) := by decide +kernel
theorem dX13_pitch_94 : decode cX13_pitch 94 = .ok (.ifCond .ne 8, 3) := by decide +kernel
theorem dX13_pitch_97 : decode cX13_pitch 97 = .ok (.iload 4, 2) := by decide +kernel
theorem dX13_pitch_99 : decode cX13_pitch 99 = .ok (.goto 5, 3) := by decide +kernel
theorem dX13_pitch_102 : decode cX13_pitch 102 = .ok (.iload 5, 2) := by decide +kernel
theorem dX13_pitch_104 : decode cX13_pitch 104 = .ok (.ireturn, 1) := by decide +kernel
theorem dX13_smile_0 : decode cX13_smile 0 = .ok (.aload_n 0, 1) := by decide +kernel
theorem dX13_smile_1 : decode cX13_smile 1 = .ok (.iload_n 1, 1) := by decide +kernel
theorem dX13_smile_2 : decode cX13_smile 2 = .ok (.invokevirtual 364, 3) := by decide +kernel
theorem dX13_smile_5 : decode cX13_smile 5 = .ok (.ifCond .eq 15, 3) := by decide +kernel
theorem dX13_smile_8 : decode cX13_smile 8 = .ok (.iload_n 2, 1) := by decide +kernel
theorem dX13_smile_9 : decode cX13_smile 9 = .ok (.i2l, 1) := by decide +kernel
theorem dX13_smile_10 : decode cX13_smile 10 = .ok (.lconst 1, 1) := by decide +kernel
theorem dX13_smile_11 : decode cX13_smile 11 = .ok (.ldc2_w 459, 3) := by decide +kernel
theorem dX13_smile_14 : decode cX13_smile 14 = .ok (.invokestatic 161, 3) := by decide +kernel
theorem dX13_smile_17 : decode cX13_smile 17 = .ok (.ifCond .ne 5, 3) := by decide +kernel
theorem dX13_smile_20 : decode cX13_smile 20 = .ok (.iconst (-1), 1) := by decide +kernel
theorem dX13_smile_21 : decode cX13_smile 21 = .ok (.ireturn, 1) := by decide +kernel
theorem dX13_smile_22 : decode cX13_smile 22 = .ok (.bipush (-2), 2) := by decide +kernel
theorem dX13_smile_24 : decode cX13_smile 24 = .ok (.istore_n 3, 1) := by decide +kernel
theorem dX13_smile_25 : decode cX13_smile 25 = .ok (.aload_n 0, 1) := by decide +kernel
theorem dX13_smile_26 : decode cX13_smile 26 = .ok (.invokevirtual 450, 3) := by decide +kernel
theorem dX13_smile_29 : decode cX13_smile 29 = .ok (.iconst 0, 1) := by decide +kernel
theorem dX13_smile_30 : decode cX13_smile 30 = .ok (.istore 4, 2) := by decide +kernel
theorem dX13_smile_32 : decode cX13_smile 32 = .ok (.iload 4, 2) := by decide +kernel
theorem dX13_smile_34 : decode cX13_smile 34 = .ok (.bipush 9, 2) := by decide +kernel
theorem dX13_smile_36 : decode cX13_smile 36 = .ok (.if_icmp .gt 50, 3) := by decide +kernel
theorem dX13_smile_39 : decode cX13_smile 39 = .ok (.iload_n 3, 1) := by decide +kernel
theorem dX13_smile_40 : decode cX13_smile 40 = .ok (.bipush (-2), 2) := by decide +kernel
theorem dX13_smile_42 : decode cX13_smile 42 = .ok (.if_icmp .ne 44, 3) := by decide +kernel
theorem dX13_smile_45 : decode cX13_smile 45 = .ok (.aload_n 0, 1) := by decide +kernel
theorem dX13_smile_46 : decode cX13_smile 46 = .ok (.getfield 16, 3) := by decide +kernel
theorem dX13_smile_49 : decode cX13_smile 49 = .ok (.iload_n 1, 1) := by decide +kernel
theorem dX13_smile_50 : decode cX13_smile 50 = .ok (.iload 4, 2) := by decide +kernel
theorem dX13_smile_52 : decode cX13_smile 52 = .ok (.iastore, 1) := by decide +kernel
theorem dX13_smile_53 : decode cX13_smile 53 = .ok (.aload_n 0, 1) := by decide +kernel
theorem dX13_smile_54 : decode cX13_smile 54 = .ok (.iload_n 2, 1) := by decide +kernel
theorem dX13_smile_55 : decode cX13_smile 55 = .ok (.invokevirtual 453, 3) := by decide +kernel
theorem dX13_smile_58 : decode cX13_smile 58 = .ok (.aload_n 0, 1) := by decide +kernel
theorem dX13_smile_59 : decode cX13_smile 59 = .ok (.getfield 9, 3) := by decide +kernel
theorem dX13_smile_62 : decode cX13_smile 62 = .ok (.iconst 5, 1) := by decide +kernel
theorem dX13_smile_63 : decode cX13_smile 63 = .ok (.iaload, 1) := by decide +kernel
theorem dX13_smile_64 : decode cX13_smile 64 = .ok (.iload_n 1, 1) := by decide +kernel
theorem dX13_smile_65 : decode cX13_smile 65 = .ok (.if_icmp .ne 8, 3) := by decide +kernel
theorem dX13_smile_68 : decode cX13_smile 68 = .ok (.iload 4, 2) := by decide +kernel
theorem dX13_smile_70 : decode cX13_smile 70 = .ok (.goto 5, 3) := by decide +kernel
theorem dX13_smile_73 : decode cX13_smile 73 = .ok (.bipush (-2), 2) := by decide +kernel
theorem dX13_smile_75 : decode cX13_smile 75 = .ok (.istore_n 3, 1) := by decide +kernel
theorem dX13_smile_76 : decode cX13_smile 76 = .ok (.aload_n 0, 1) := by decide +kernel
theorem dX13_smile_77 : decode cX13_smile 77 = .ok (.invokevirtual 456, 3) := by decide +kernel
theorem dX13_smile_80 : decode cX13_smile 80 = .ok (.iinc 4 1, 3) := by decide +kernel
theorem dX13_smile_83 : decode cX13_smile 83 = .ok (.goto (-51), 3) := by decide +kernel
theorem dX13_smile_86 : decode cX13_smile 86 = .ok (.iload_n 3, 1) := by decide +kernel
theorem dX13_smile_87 : decode cX13_smile 87 = .ok (.ireturn, 1) := by decide +kernel
theorem dX13_way_0 : decode cX13_way 0 = .ok (.aload_n 0, 1) := by decide +kernel
theorem dX13_way_1 : decode cX13_way 1 = .ok (.iload_n 1, 1) := by decide +kernel
theorem dX13_way_2 : decode cX13_way 2 = .ok (.invokevirtual 371, 3) := by decide +kernel
theorem dX13_way_5 : decode cX13_way 5 = .ok (.ifCond .eq 21, 3) := by decide +kernel
theorem dX13_way_8 : decode cX13_way 8 = .ok (.aload_n 0, 1) := by decide +kernel
theorem dX13_way_9 : decode cX13_way 9 = .ok (.iload_n 2, 1) := by decide +kernel
theorem dX13_way_10 : decode cX13_way 10 = .ok (.invokevirtual 371, 3) := by decide +kernel
theorem dX13_way_13 : decode cX13_way 13 = .ok (.ifCond .eq 13, 3) := by decide +kernel
theorem dX13_way_16 : decode cX13_way 16 = .ok (.iload_n 3, 1) := by decide +kernel
theorem dX13_way_17 : decode cX13_way 17 = .ok (.i2l, 1) := by decide +kernel
theorem dX13_way_18 : decode cX13_way 18 = .ok (.lconst 0, 1) := by decide +kernel
theorem dX13_way_19 : decode cX13_way 19 = .ok (.lconst 1, 1) := by decide +kernel
theorem dX13_way_20 : decode cX13_way 20 = .ok (.invokestatic 161, 3) := by decide +kernel
theorem dX13_way_23 : decode cX13_way 23 = .ok (.ifCond .ne 5, 3) := by decide +kernel
theorem dX13_way_26 : decode cX13_way 26 = .ok (.iconst (-1), 1) := by decide +kernel
theorem dX13_way_27 : decode cX13_way 27 = .ok (.ireturn, 1) := by decide +kernel
theorem dX13_way_28 : decode cX13_way 28 = .ok (.aload_n 0, 1) := by decide +kernel
theorem dX13_way_29 : decode cX13_way 29 = .ok (.iload_n 1, 1) := by decide +kernel
theorem dX13_way_30 : decode cX13_way 30 = .ok (.iload_n 2, 1) := by decide +kernel
theorem dX13_way_31 : decode cX13_way 31 = .ok (.invokevirtual 377, 3) := by decide +kernel
theorem dX13_way_34 : decode cX13_way 34 = .ok (.istore 4, 2) := by decide +kernel
theorem dX13_way_36 : decode cX13_way 36 = .ok (.iload 4, 2) := by decide +kernel
theorem dX13_way_38 : decode cX13_way 38 = .ok (.bipush 99, 2) := by decide +kernel
theorem dX13_way_40 : decode cX13_way 40 = .ok (.if_icmp .ne 8, 3) := by decide +kernel
theorem dX13_way_43 : decode cX13_way 43 = .ok (.bipush (-2), 2) := by decide +kernel
theorem dX13_way_45 : decode cX13_way 45 = .ok (.goto 18, 3) := by decide +kernel
theorem dX13_way_48 : decode cX13_way 48 = .ok (.iload_n 3, 1) := by decide +kernel
theorem dX13_way_49 : decode cX13_way 49 = .ok (.ifCond .ne 8, 3) := by decide +kernel
theorem dX13_way_52 : decode cX13_way 52 = .ok (.iload 4, 2) := by decide +kernel
theorem dX13_way_54 : decode cX13_way 54 = .ok (.goto 9, 3) := by decide +kernel
theorem dX13_way_57 : decode cX13_way 57 = .ok (.aload_n 0, 1) := by decide +kernel
theorem dX13_way_58 : decode cX13_way 58 = .ok (.iload_n 1, 1) := by decide +kernel
theorem dX13_way_59 : decode cX13_way 59 = .ok (.iload_n 2, 1) := by decide +kernel
theorem dX13_way_60 : decode cX13_way 60 = .ok (.invokevirtual 400, 3) := by decide +kernel
theorem dX13_way_63 : decode cX13_way 63 = .ok (.ireturn, 1) := by decide +kernel
theorem dX13_came_0 : decode cX13_came 0 = .ok (.aload_n 0, 1) := by decide +kernel
theorem dX13_came_1 : decode cX13_came 1 = .ok (.iload_n 1, 1) := by decide +kernel
theorem dX13_came_2 : decode cX13_came 2 = .ok (.invokevirtual 368, 3) := by decide +kernel
theorem dX13_came_5 : decode cX13_came 5 = .ok (.ifCond .eq 34, 3) := by decide +kernel
theorem dX13_came_8 : decode cX13_came 8 = .ok (.iload_n 2, 1) := by decide +kernel
theorem dX13_came_9 : decode cX13_came 9 = .ok (.i2l, 1) := by decide +kernel
theorem dX13_came_10 : decode cX13_came 10 = .ok (.lconst 1, 1) := by decide +kernel
theorem dX13_came_11 : decode cX13_came 11 = .ok (.ldc2_w 464, 3) := by decide +kernel
theorem dX13_came_14 : decode cX13_came 14 = .ok (.invokestatic 161, 3) := by decide +kernel
theorem dX13_came_17 : decode cX13_came 17 = .ok (.ifCond .eq 22, 3) := by decide +kernel
theorem dX13_came_20 : decode cX13_came 20 = .ok (.aload_n 0, 1) := by decide +kernel
theorem dX13_came_21 : decode cX13_came 21 = .ok (.iload_n 3, 1) := by decide +kernel
theorem dX13_came_22 : decode cX13_came 22 = .ok (.invokevirtual 371, 3) := by decide +kernel
theorem dX13_came_25 : decode cX13_came 25 = .ok (.ifCond .eq 14, 3) := by decide +kernel
theorem dX13_came_28 : decode cX13_came 28 = .ok (.iload 4, 2) := by decide +kernel
theorem dX13_came_30 : decode cX13_came 30 = .ok (.i2l, 1) := by decide +kernel
theorem dX13_came_31 : decode cX13_came 31 = .ok (.lconst 0, 1) := by decide +kernel
theorem dX13_came_32 : decode cX13_came 32 = .ok (.lconst 1, 1) := by decide +kernel
theorem dX13_came_33 : decode cX13_came 33 = .ok (.invokestatic 161, 3) := by decide +kernel
theorem dX13_came_36 : decode cX13_came 36 = .ok (.ifCond .ne 5, 3) := by decide +kernel
theorem dX13_came_39 : decode cX13_came 39 = .ok (.iconst (-1), 1) := by decide +kernel
theorem dX13_came_40 : decode cX13_came 40 = .ok (.ireturn, 1) := by decide +kernel
theorem dX13_came_41 : decode cX13_came 41 = .ok (.iconst 0, 1) := by decide +kernel
theorem dX13_came_42 : decode cX13_came 42 = .ok (.istore 5, 2) := by decide +kernel
theorem dX13_came_44 : decode cX13_came 44 = .ok (.bipush (-2), 2) := by decide +kernel
theorem dX13_came_46 : decode cX13_came 46 = .ok (.istore 6, 2) := by decide +kernel
theorem dX13_came_48 : decode cX13_came 48 = .ok (.aload_n 0, 1) := by decide +kernel
theorem dX13_came_49 : decode cX13_came 49 = .ok (.invokevirtual 450, 3) := by decide +kernel
theorem dX13_came_52 : decode cX13_came 52 = .ok (.iconst 0, 1) := by decide +kernel
theorem dX13_came_53 : decode cX13_came 53 = .ok (.istore 7, 2) := by decide +kernel
theorem dX13_came_55 : decode cX13_came 55 = .ok (.iload 7, 2) := by decide +kernel
theorem dX13_came_57 : decode cX13_came 57 = .ok (.aload_n 0, 1) := by decide +kernel
theorem dX13_came_58 : decode cX13_came 58 = .ok (.getfield 9, 3) := by decide +kernel
theorem dX13_came_61 : decode cX13_came 61 = .ok (.iconst 0, 1) := by decide +kernel
theorem dX13_came_62 : decode cX13_came 62 = .ok (.iaload, 1) := by decide +kernel
theorem dX13_came_63 : decode cX13_came 63 = .ok (.if_icmp .ge 77, 3) := by decide +kernel
theorem dX13_came_66 : decode cX13_came 66 = .ok (.aload_n 0, 1) := by decide +kernel
theorem dX13_came_67 : decode cX13_came 67 = .ok (.getfield 28, 3) := by decide +kernel
theorem dX13_came_70 : decode cX13_came 70 = .ok (.iload_n 1, 1) := by decide +kernel
theorem dX13_came_71 : decode cX13_came 71 = .ok (.iload 7, 2) := by decide +kernel
theorem dX13_came_73 : decode cX13_came 73 = .ok (.iastore, 1) := by decide +kernel
theorem dX13_came_74 : decode cX13_came 74 = .ok (.aload_n 0, 1) := by decide +kernel
theorem dX13_came_75 : decode cX13_came 75 = .ok (.iload_n 2, 1) := by decide +kernel
theorem dX13_came_76 : decode cX13_came 76 = .ok (.invokevirtual 453, 3) := by decide +kernel
theorem dX13_came_79 : decode cX13_came 79 = .ok (.aload_n 0, 1) := by decide +kernel
theorem dX13_came_80 : decode cX13_came 80 = .ok (.getfield 28, 3) := by decide +kernel
theorem dX13_came_83 : decode cX13_came 83 = .ok (.iload_n 1, 1) := by decide +kernel
theorem dX13_came_84 : decode cX13_came 84 = .ok (.iaload, 1) := by decide +kernel
theorem dX13_came_85 : decode cX13_came 85 = .ok (.iload_n 3, 1) := by decide +kernel
theorem dX13_came_86 : decode cX13_came 86 = .ok (.if_icmp .ne 7, 3) := by decide +kernel
theorem dX13_came_89 : decode cX13_came 89 = .ok (.iconst 1, 1) := by decide +kernel
theorem dX13_came_90 : decode cX13_came 90 = .ok (.goto 4, 3) := by decide +kernel
theorem dX13_came_93 : decode cX13_came 93 = .ok (.iconst 0, 1) := by decide +kernel
theorem dX13_came_94 : decode cX13_came 94 = .ok (.istore 8, 2) := by decide +kernel
theorem dX13_came_96 : decode cX13_came 96 = .ok (.aload_n 0, 1) := by decide +kernel
theorem dX13_came_97 : decode cX13_came 97 = .ok (.invokevirtual 456, 3) := by decide +kernel
theorem dX13_came_100 : decode cX13_came 100 = .ok (.iload 8, 2) := by decide +kernel
theorem dX13_came_102 : decode cX13_came 102 = .ok (.ifCond .eq 13, 3) := by decide +kernel
theorem dX13_came_105 : decode cX13_came 105 = .ok (.iload 5, 2) := by decide +kernel
theorem dX13_came_107 : decode cX13_came 107 = .ok (.ifCond .ne 8, 3) := by decide +kernel
theorem dX13_came_110 : decode cX13_came 110 = .ok (.iload 7, 2) := by decide +kernel
theorem dX13_came_112 : decode cX13_came 112 = .ok (.goto 5, 3) := by decide +kernel
theorem dX13_came_115 : decode cX13_came 115 = .ok (.iload 6, 2) := by decide +kernel
theorem dX13_came_117 : decode cX13_came 117 = .ok (.istore 6, 2) := by decide +kernel
theorem dX13_came_119 : decode cX13_came 119 = .ok (.iload 5, 2) := by decide +kernel
theorem dX13_came_121 : decode cX13_came 121 = .ok (.iload 8, 2) := by decide +kernel
theorem dX13_came_123 : decode cX13_came 123 = .ok (.ifCond .eq 7, 3) := by decide +kernel
theorem dX13_came_126 : decode cX13_came 126 = .ok (.iconst 1, 1) := by decide +kernel
theorem dX13_came_127 : decode cX13_came 127 = .ok (.goto 4, 3) := by decide +kernel
theorem dX13_came_130 : decode cX13_came 130 = .ok (.iconst 0, 1) := by decide +kernel
theorem dX13_came_131 : decode cX13_came 131 = .ok (.iadd, 1) := by decide +kernel
theorem dX13_came_132 : decode cX13_came 132 = .ok (.istore 5, 2) := by decide +kernel
theorem dX13_came_134 : decode cX13_came 134 = .ok (.iinc 7 1, 3) := by decide +kernel
theorem dX13_came_137 : decode cX13_came 137 = .ok (.goto (-82), 3) := by decide +kernel
theorem dX13_came_140 : decode cX13_came 140 = .ok (.iload 4, 2) := by decide +kernel
theorem dX13_came_142 : decode cX13_came 142 = .ok (.ifCond .ne 8, 3) := by decide +kernel
theorem dX13_came_145 : decode cX13_came 145 = .ok (.iload 5, 2) := by decide +kernel
theorem dX13_came_147 : decode cX13_came 147 = .ok (.goto 5, 3) := by decide +kernel
theorem dX13_came_150 : decode cX13_came 150 = .ok (.iload 6, 2) := by decide +kernel
theorem dX13_came_152 : decode cX13_came 152 = .ok (.ireturn, 1) := by decide +kernel
theorem dX13_post_0 : decode cX13_post 0 = .ok (.aload_n 0, 1) := by decide +kernel
theorem dX13_post_1 : decode cX13_post 1 = .ok (.invokevirtual 430, 3) := by decide +kernel
theorem dX13_post_4 : decode cX13_post 4 = .ok (.ifCond .eq 27, 3) := by decide +kernel
theorem dX13_post_7 : decode cX13_post 7 = .ok (.iload_n 1, 1) := by decide +kernel
theorem dX13_post_8 : decode cX13_post 8 = .ok (.i2l, 1) := by decide +kernel
theorem dX13_post_9 : decode cX13_post 9 = .ok (.lconst 1, 1) := by decide +kernel
theorem dX13_post_10 : decode cX13_post 10 = .ok (.ldc2_w 459, 3) := by decide +kernel
theorem dX13_post_13 : decode cX13_post 13 = .ok (.invokestatic 161, 3) := by decide +kernel
theorem dX13_post_16 : decode cX13_post 16 = .ok (.ifCond .eq 15, 3) := by decide +kernel
theorem dX13_post_19 : decode cX13_post 19 = .ok (.iload_n 2, 1) := by decide +kernel
theorem dX13_post_20 : decode cX13_post 20 = .ok (.i2l, 1) := by decide +kernel
theorem dX13_post_21 : decode cX13_post 21 = .ok (.lconst 0, 1) := by decide +kernel
theorem dX13_post_22 : decode cX13_post 22 = .ok (.ldc2_w 444, 3) := by decide +kernel
theorem dX13_post_25 : decode cX13_post 25 = .ok (.invokestatic 161, 3) := by decide +kernel
theorem dX13_post_28 : decode cX13_post 28 = .ok (.ifCond .ne 6, 3) := by decide +kernel
theorem dX13_post_31 : decode cX13_post 31 = .ok (.bipush (-2), 2) := by decide +kernel
theorem dX13_post_33 : decode cX13_post 33 = .ok (.ireturn, 1) := by decide +kernel
theorem dX13_post_34 : decode cX13_post 34 = .ok (.aload_n 0, 1) := by decide +kernel
theorem dX13_post_35 : decode cX13_post 35 = .ok (.getfield 9, 3) := by decide +kernel
theorem dX13_post_38 : decode cX13_post 38 = .ok (.bipush 6, 2) := by decide +kernel
theorem dX13_post_40 : decode cX13_post 40 = .ok (.iaload, 1) := by decide +kernel
theorem dX13_post_41 : decode cX13_post 41 = .ok (.istore_n 3, 1) := by decide +kernel
theorem dX13_post_42 : decode cX13_post 42 = .ok (.aload_n 0, 1) := by decide +kernel
theorem dX13_post_43 : decode cX13_post 43 = .ok (.invokevirtual 450, 3) := by decide +kernel
theorem dX13_post_46 : decode cX13_post 46 = .ok (.aload_n 0, 1) := by decide +kernel
theorem dX13_post_47 : decode cX13_post 47 = .ok (.iload_n 1, 1) := by decide +kernel
theorem dX13_post_48 : decode cX13_post 48 = .ok (.invokevirtual 466, 3) := by decide +kernel
theorem dX13_post_51 : decode cX13_post 51 = .ok (.istore 4, 2) := by decide +kernel
theorem dX13_post_53 : decode cX13_post 53 = .ok (.iconst (-1), 1) := by decide +kernel
theorem dX13_post_54 : decode cX13_post 54 = .ok (.istore 5, 2) := by decide +kernel
theorem dX13_post_56 : decode cX13_post 56 = .ok (.iconst (-1), 1) := by decide +kernel
theorem dX13_post_57 : decode cX13_post 57 = .ok (.istore 6, 2) := by decide +kernel
theorem dX13_post_59 : decode cX13_post 59 = .ok (.iconst 0, 1) := by decide +kernel
theorem dX13_post_60 : decode cX13_post 60 = .ok (.istore 7, 2) := by decide +kernel
theorem dX13_post_62 : decode cX13_post 62 = .ok (.iload 7, 2) := by decide +kernel
theorem dX13_post_64 : decode cX13_post 64 = .ok (.aload_n 0, 1) := by decide +kernel
theorem dX13_post_65 : decode cX13_post 65 = .ok (.getfield 9, 3) := by decide +kernel
theorem dX13_post_68 : decode cX13_post 68 = .ok (.iconst 0, 1) := by decide +kernel
theorem dX13_post_69 : decode cX13_post 69 = .ok (.iaload, 1) := by decide +kernel
theorem dX13_post_70 : decode cX13_post 70 = .ok (.if_icmp .ge 81, 3) := by decide +kernel
theorem dX13_post_73 : decode cX13_post 73 = .ok (.iload 7, 2) := by decide +kernel
theorem dX13_post_75 : decode cX13_post 75 = .ok (.iconst 1, 1) := by decide +kernel
theorem dX13_post_76 : decode cX13_post 76 = .ok (.iadd, 1) := by decide +kernel
theorem dX13_post_77 : decode cX13_post 77 = .ok (.istore 8, 2) := by decide +kernel
theorem dX13_post_79 : decode cX13_post 79 = .ok (.iload 8, 2) := by decide +kernel
theorem dX13_post_81 : decode cX13_post 81 = .ok (.aload_n 0, 1) := by decide +kernel
theorem dX13_post_82 : decode cX13_post 82 = .ok (.getfield 9, 3) := by decide +kernel
theorem dX13_post_85 : decode cX13_post 85 = .ok (.iconst 0, 1) := by decide +kernel
theorem dX13_post_86 : decode cX13_post 86 = .ok (.iaload, 1) := by decide +kernel
theorem dX13_post_87 : decode cX13_post 87 = .ok (.if_icmp .ge 58, 3) := by decide +kernel
theorem dX13_post_90 : decode cX13_post 90 = .ok (.aload_n 0, 1) := by decide +kernel
theorem dX13_post_91 : decode cX13_post 91 = .ok (.getfield 34, 3) := by decide +kernel
theorem dX13_post_94 : decode cX13_post 94 = .ok (.iload 7, 2) := by decide +kernel
theorem dX13_post_96 : decode cX13_post 96 = .ok (.iaload, 1) := by decide +kernel
theorem dX13_post_97 : decode cX13_post 97 = .ok (.iload 8, 2) := by decide +kernel
theorem dX13_post_99 : decode cX13_post 99 = .ok (.invokestatic 374, 3) := by decide +kernel
theorem dX13_post_102 : decode cX13_post 102 = .ok (.ifCond .eq 37, 3) := by decide +kernel
theorem dX13_post_105 : decode cX13_post 105 = .ok (.aload_n 0, 1) := by decide +kernel
theorem dX13_post_106 : decode cX13_post 106 = .ok (.iload 7, 2) := by decide +kernel
theorem dX13_post_108 : decode cX13_post 108 = .ok (.iload 8, 2) := by decide +kernel
theorem dX13_post_110 : decode cX13_post 110 = .ok (.invokevirtual 438, 3) := by decide +kernel
theorem dX13_post_113 : decode cX13_post 113 = .ok (.aload_n 0, 1) := by decide +kernel
theorem dX13_post_114 : decode cX13_post 114 = .ok (.iload_n 1, 1) := by decide +kernel
theorem dX13_post_115 : decode cX13_post 115 = .ok (.invokevirtual 466, 3) := by decide +kernel
theorem dX13_post_118 : decode cX13_post 118 = .ok (.istore 9, 2) := by decide +kernel
theorem dX13_post_120 : decode cX13_post 120 = .ok (.iload 9, 2) := by decide +kernel
theorem dX13_post_122 : decode cX13_post 122 = .ok (.iload 4, 2) := by decide +kernel
theorem dX13_post_124 : decode cX13_post 124 = .ok (.if_icmp .le 15, 3) := by decide +kernel
theorem dX13_post_127 : decode cX13_post 127 = .ok (.iload 9, 2) := by decide +kernel
theorem dX13_post_129 : decode cX13_post 129 = .ok (.istore 4, 2) := by decide +kernel
theorem dX13_post_131 : decode cX13_post 131 = .ok (.iload 7, 2) := by decide +kernel
theorem dX13_post_133 : decode cX13_post 133 = .ok (.istore 5, 2) := by decide +kernel
theorem dX13_post_135 : decode cX13_post 135 = .ok (.iload 8, 2) := by decide +kernel
theorem dX13_post_137 : decode cX13_post 137 = .ok (.istore 6, 2) := by decide +kernel
theorem dX13_post_139 : decode cX13_post 139 = .ok (.iinc 8 1, 3) := by decide +kernel
theorem dX13_post_142 : decode cX13_post 142 = .ok (.goto (-63), 3) := by decide +kernel
theorem dX13_post_145 : decode cX13_post 145 = .ok (.iinc 7 1, 3) := by decide +kernel
theorem dX13_post_148 : decode cX13_post 148 = .ok (.goto (-86), 3) := by decide +kernel
theorem dX13_post_151 : decode cX13_post 151 = .ok (.iload_n 2, 1) := by decide +kernel
theorem dX13_post_152 : decode cX13_post 152 = .ok (.ifCond .ne 10, 3) := by decide +kernel
theorem dX13_post_155 : decode cX13_post 155 = .ok (.iload 4, 2) := by decide +kernel
theorem dX13_post_157 : decode cX13_post 157 = .ok (.iload_n 3, 1) := by decide +kernel
theorem dX13_post_158 : decode cX13_post 158 = .ok (.isub, 1) := by decide +kernel
theorem dX13_post_159 : decode cX13_post 159 = .ok (.goto 15, 3) := by decide +kernel
theorem dX13_post_162 : decode cX13_post 162 = .ok (.iload_n 2, 1) := by decide +kernel
theorem dX13_post_163 : decode cX13_post 163 = .ok (.iconst 1, 1) := by decide +kernel
theorem dX13_post_164 : decode cX13_post 164 = .ok (.if_icmp .ne 8, 3) := by decide +kernel
theorem dX13_post_167 : decode cX13_post 167 = .ok (.iload 5, 2) := by decide +kernel
theorem dX13_post_169 : decode cX13_post 169 = .ok (.goto 5, 3) := by decide +kernel
theorem dX13_post_172 : decode cX13_post 172 = .ok (.iload 6, 2) := by decide +kernel
theorem dX13_post_174 : decode cX13_post 174 = .ok (.ireturn, 1) := by decide +kernel
theorem dX13_comeIn_0 : decode cX13_comeIn 0 = .ok (.aload_n 0, 1) := by decide +kernel
theorem dX13_comeIn_1 : decode cX13_comeIn 1 = .ok (.iload_n 1, 1) := by decide +kernel
theorem dX13_comeIn_2 : decode cX13_comeIn 2 = .ok (.invokevirtual 453, 3) := by decide +kernel
theorem dX13_comeIn_5 : decode cX13_comeIn 5 = .ok (.aload_n 0, 1) := by decide +kernel
theorem dX13_comeIn_6 : decode cX13_comeIn 6 = .ok (.getfield 9, 3) := by decide +kernel
theorem dX13_comeIn_9 : decode cX13_comeIn 9 = .ok (.bipush 6, 2) := by decide +kernel
theorem dX13_comeIn_11 : decode cX13_comeIn 11 = .ok (.iaload, 1) := by decide +kernel
theorem dX13_comeIn_12 : decode cX13_comeIn 12 = .ok (.istore_n 2, 1) := by decide +kernel
theorem dX13_comeIn_13 : decode cX13_comeIn 13 = .ok (.aload_n 0, 1) := by decide +kernel
theorem dX13_comeIn_14 : decode cX13_comeIn 14 = .ok (.invokevirtual 456, 3) := by decide +kernel
theorem dX13_comeIn_17 : decode cX13_comeIn 17 = .ok (.iload_n 2, 1) := by decide +kernel
theorem dX13_comeIn_18 : decode cX13_comeIn 18 = .ok (.ireturn, 1) := by decide +kernel
theorem dX13_playOf_0 : decode cX13_playOf 0 = .ok (.iload 5, 2) := by decide +kernel
theorem dX13_playOf_2 : decode cX13_playOf 2 = .ok (.istore 6, 2) := by decide +kernel
theorem dX13_playOf_4 : decode cX13_playOf 4 = .ok (.aload_n 0, 1) := by decide +kernel
theorem dX13_playOf_5 : decode cX13_playOf 5 = .ok (.getfield 22, 3) := by decide +kernel
theorem dX13_playOf_8 : decode cX13_playOf 8 = .ok (.iload_n 1, 1) := by decide +kernel
theorem dX13_playOf_9 : decode cX13_playOf 9 = .ok (.iaload, 1) := by decide +kernel
theorem dX13_playOf_10 : decode cX13_playOf 10 = .ok (.aload_n 0, 1) := by decide +kernel
theorem dX13_playOf_11 : decode cX13_playOf 11 = .ok (.getfield 22, 3) := by decide +kernel
theorem dX13_playOf_14 : decode cX13_playOf 14 = .ok (.iload_n 2, 1) := by decide +kernel
theorem dX13_playOf_15 : decode cX13_playOf 15 = .ok (.iaload, 1) := by decide +kernel
theorem dX13_playOf_16 : decode cX13_playOf 16 = .ok (.isub, 1) := by decide +kernel
theorem dX13_playOf_17 : decode cX13_playOf 17 = .ok (.istore 7, 2) := by decide +kernel
theorem dX13_playOf_19 : decode cX13_playOf 19 = .ok (.iconst 1, 1) := by decide +kernel
theorem dX13_playOf_20 : decode cX13_playOf 20 = .ok (.istore 8, 2) := by decide +kernel
theorem dX13_playOf_22 : decode cX13_playOf 22 = .ok (.iconst 0, 1) := by decide +kernel
theorem dX13_playOf_23 : decode cX13_playOf 23 = .ok (.istore 9, 2) := by decide +kernel
theorem dX13_playOf_25 : decode cX13_playOf 25 = .ok (.iload 9, 2) := by decide +kernel
theorem dX13_playOf_27 : decode cX13_playOf 27 = .ok (.iload_n 3, 1) := by decide +kernel
theorem dX13_playOf_28 : decode cX13_playOf 28 = .ok (.if_icmp .ge 111, 3) := by decide +kernel
theorem dX13_playOf_31 : decode cX13_playOf 31 = .ok (.iload 8, 2) := by decide +kernel
theorem dX13_playOf_33 : decode cX13_playOf 33 = .ok (.ifCond .eq 106, 3) := by decide +kernel
theorem dX13_playOf_36 : decode cX13_playOf 36 = .ok (.iload 9, 2) := by decide +kernel
theorem dX13_playOf_38 : decode cX13_playOf 38 = .ok (.iconst 2, 1) := by decide +kernel
theorem dX13_playOf_39 : decode cX13_playOf 39 = .ok (.irem, 1) := by decide +kernel
theorem dX13_playOf_40 : decode cX13_playOf 40 = .ok (.ifCond .ne 7, 3) := by decide +kernel
theorem dX13_playOf_43 : decode cX13_playOf 43 = .ok (.iload_n 1, 1) := by decide +kernel
theorem dX13_playOf_44 : decode cX13_playOf 44 = .ok (.goto 4, 3) := by decide +kernel
theorem dX13_playOf_47 : decode cX13_playOf 47 = .ok (.iload_n 2, 1) := by decide +kernel
theorem dX13_playOf_48 : decode cX13_playOf 48 = .ok (.istore 10, 2) := by decide +kernel
theorem dX13_playOf_50 : decode cX13_playOf 50 = .ok (.iload 6, 2) := by decide +kernel
theorem dX13_playOf_52 : decode cX13_playOf 52 = .ok (.aload_n 0, 1) := by decide +kernel
theorem dX13_playOf_53 : decode cX13_playOf 53 = .ok (.getfield 9, 3) := by decide +kernel
theorem dX13_playOf_56 : decode cX13_playOf 56 = .ok (.iconst 0, 1) := by decide +kernel
theorem dX13_playOf_57 : decode cX13_playOf 57 = .ok (.iaload, 1) := by decide +kernel
theorem dX13_playOf_58 : decode cX13_playOf 58 = .ok (.idiv, 1) := by decide +kernel
theorem dX13_playOf_59 : decode cX13_playOf 59 = .ok (.istore 6, 2) := by decide +kernel
theorem dX13_playOf_61 : decode cX13_playOf 61 = .ok (.iload 4, 2) := by decide +kernel
theorem dX13_playOf_63 : decode cX13_playOf 63 = .ok (.iload 6, 2) := by decide +kernel
theorem dX13_playOf_65 : decode cX13_playOf 65 = .ok (.idiv, 1) := by decide +kernel
theorem dX13_playOf_66 : decode cX13_playOf 66 = .ok (.aload_n 0, 1) := by decide +kernel
theorem dX13_playOf_67 : decode cX13_playOf 67 = .ok (.getfield 9, 3) := by decide +kernel
theorem dX13_playOf_70 : decode cX13_playOf 70 = .ok (.iconst 0, 1) := by decide +kernel
theorem dX13_playOf_71 : decode cX13_playOf 71 = .ok (.iaload, 1) := by decide +kernel
theorem dX13_playOf_72 : decode cX13_playOf 72 = .ok (.irem, 1) := by decide +kernel
theorem dX13_playOf_73 : decode cX13_playOf 73 = .ok (.istore 11, 2) := by decide +kernel
theorem dX13_playOf_75 : decode cX13_playOf 75 = .ok (.iload 11, 2) := by decide +kernel
theorem dX13_playOf_77 : decode cX13_playOf 77 = .ok (.aload_n 0, 1) := by decide +kernel
theorem dX13_playOf_78 : decode cX13_playOf 78 = .ok (.getfield 13, 3) := by decide +kernel
theorem dX13_playOf_81 : decode cX13_playOf 81 = .ok (.iload 10, 2) := by decide +kernel
theorem dX13_playOf_83 : decode cX13_playOf 83 = .ok (.iaload, 1) := by decide +kernel
theorem dX13_playOf_84 : decode cX13_playOf 84 = .ok (.if_icmp .eq 23, 3) := by decide +kernel
theorem dX13_playOf_87 : decode cX13_playOf 87 = .ok (.aload_n 0, 1) := by decide +kernel
theorem dX13_playOf_88 : decode cX13_playOf 88 = .ok (.getfield 34, 3) := by decide +kernel
theorem dX13_playOf_91 : decode cX13_playOf 91 = .ok (.aload_n 0, 1) := by decide +kernel
theorem dX13_playOf_92 : decode cX13_playOf 92 = .ok (.getfield 13, 3) := by decide +kernel
theorem dX13_playOf_95 : decode cX13_playOf 95 = .ok (.iload 10, 2) := by decide +kernel
theorem dX13_playOf_97 : decode cX13_playOf 97 = .ok (.iaload, 1) := by decide +kernel
theorem dX13_playOf_98 : decode cX13_playOf 98 = .ok (.iaload, 1) := by decide +kernel
theorem dX13_playOf_99 : decode cX13_playOf 99 = .ok (.iload 11, 2) := by decide +kernel
theorem dX13_playOf_101 : decode cX13_playOf 101 = .ok (.invokestatic 374, 3) := by decide +kernel
theorem dX13_playOf_104 : decode cX13_playOf 104 = .ok (.ifCond .eq 7, 3) := by decide +kernel
theorem dX13_playOf_107 : decode cX13_playOf 107 = .ok (.iconst 1, 1) := by decide +kernel
theorem dX13_playOf_108 : decode cX13_playOf 108 = .ok (.goto 4, 3) := by decide +kernel
theorem dX13_playOf_111 : decode cX13_playOf 111 = .ok (.iconst 0, 1) := by decide +kernel
theorem dX13_playOf_112 : decode cX13_playOf 112 = .ok (.istore 8, 2) := by decide +kernel
theorem dX13_playOf_114 : decode cX13_playOf 114 = .ok (.iload 8, 2) := by decide +kernel
theorem dX13_playOf_116 : decode cX13_playOf 116 = .ok (.ifCond .eq 17, 3) := by decide +kernel
theorem dX13_playOf_119 : decode cX13_playOf 119 = .ok (.aload_n 0, 1) := by decide +kernel
theorem dX13_playOf_120 : decode cX13_playOf 120 = .ok (.getfield 13, 3) := by decide +kernel
theorem dX13_playOf_123 : decode cX13_playOf 123 = .ok (.iload 10, 2) := by decide +kernel
theorem dX13_playOf_125 : decode cX13_playOf 125 = .ok (.iload 11, 2) := by decide +kernel
theorem dX13_playOf_127 : decode cX13_playOf 127 = .ok (.iastore, 1) := by decide +kernel
theorem dX13_playOf_128 : decode cX13_playOf 128 = .ok (.aload_n 0, 1) := by decide +kernel
theorem dX13_playOf_129 : decode cX13_playOf 129 = .ok (.invokevirtual 409, 3) := by decide +kernel
theorem dX13_playOf_132 : decode cX13_playOf 132 = .ok (.pop, 1) := by decide +kernel
theorem dX13_playOf_133 : decode cX13_playOf 133 = .ok (.iinc 9 1, 3) := by decide +kernel
theorem dX13_playOf_136 : decode cX13_playOf 136 = .ok (.goto (-111), 3) := by decide +kernel
theorem dX13_playOf_139 : decode cX13_playOf 139 = .ok (.iload 8, 2) := by decide +kernel
theorem dX13_playOf_141 : decode cX13_playOf 141 = .ok (.ifCond .eq 22, 3) := by decide +kernel
theorem dX13_playOf_144 : decode cX13_playOf 144 = .ok (.aload_n 0, 1) := by decide +kernel
theorem dX13_playOf_145 : decode cX13_playOf 145 = .ok (.getfield 22, 3) := by decide +kernel
theorem dX13_playOf_148 : decode cX13_playOf 148 = .ok (.iload_n 1, 1) := by decide +kernel
theorem dX13_playOf_149 : decode cX13_playOf 149 = .ok (.iaload, 1) := by decide +kernel
theorem dX13_playOf_150 : decode cX13_playOf 150 = .ok (.aload_n 0, 1) := by decide +kernel
theorem dX13_playOf_151 : decode cX13_playOf 151 = .ok (.getfield 22, 3) := by decide +kernel
theorem dX13_playOf_154 : decode cX13_playOf 154 = .ok (.iload_n 2, 1) := by decide +kernel
theorem dX13_playOf_155 : decode cX13_playOf 155 = .ok (.iaload, 1) := by decide +kernel
theorem dX13_playOf_156 : decode cX13_playOf 156 = .ok (.isub, 1) := by decide +kernel
theorem dX13_playOf_157 : decode cX13_playOf 157 = .ok (.iload 7, 2) := by decide +kernel
theorem dX13_playOf_159 : decode cX13_playOf 159 = .ok (.isub, 1) := by decide +kernel
theorem dX13_playOf_160 : decode cX13_playOf 160 = .ok (.goto 6, 3) := by decide +kernel
theorem dX13_playOf_163 : decode cX13_playOf 163 = .ok (.ldc_w 469, 3) := by decide +kernel
theorem dX13_playOf_166 : decode cX13_playOf 166 = .ok (.istore 9, 2) := by decide +kernel
theorem dX13_playOf_168 : decode cX13_playOf 168 = .ok (.aload_n 0, 1) := by decide +kernel
theorem dX13_playOf_169 : decode cX13_playOf 169 = .ok (.invokevirtual 456, 3) := by decide +kernel
theorem dX13_playOf_172 : decode cX13_playOf 172 = .ok (.iload 9, 2) := by decide +kernel
theorem dX13_playOf_174 : decode cX13_playOf 174 = .ok (.ireturn, 1) := by decide +kernel
theorem dX13_bestAt_0 : decode cX13_bestAt 0 = .ok (.iload_n 1, 1) := by decide +kernel
theorem dX13_bestAt_1 : decode cX13_bestAt 1 = .ok (.istore 4, 2) := by decide +kernel
theorem dX13_bestAt_3 : decode cX13_bestAt 3 = .ok (.iload_n 1, 1) := by decide +kernel
theorem dX13_bestAt_4 : decode cX13_bestAt 4 = .ok (.iconst 1, 1) := by decide +kernel
theorem dX13_bestAt_5 : decode cX13_bestAt 5 = .ok (.iadd, 1) := by decide +kernel
theorem dX13_bestAt_6 : decode cX13_bestAt 6 = .ok (.istore 5, 2) := by decide +kernel
theorem dX13_bestAt_8 : decode cX13_bestAt 8 = .ok (.iload 5, 2) := by decide +kernel
theorem dX13_bestAt_10 : decode cX13_bestAt 10 = .ok (.iload_n 1, 1) := by decide +kernel
theorem dX13_bestAt_11 : decode cX13_bestAt 11 = .ok (.iload_n 2, 1) := by decide +kernel
theorem dX13_bestAt_12 : decode cX13_bestAt 12 = .ok (.iadd, 1) := by decide +kernel
theorem dX13_bestAt_13 : decode cX13_bestAt 13 = .ok (.if_icmp .ge 97, 3) := by decide +kernel
theorem dX13_bestAt_16 : decode cX13_bestAt 16 = .ok (.iload_n 3, 1) := by decide +kernel
theorem dX13_bestAt_17 : decode cX13_bestAt 17 = .ok (.ifCond .eq 28, 3) := by decide +kernel
theorem dX13_bestAt_20 : decode cX13_bestAt 20 = .ok (.aload_n 0, 1) := by decide +kernel
theorem dX13_bestAt_21 : decode cX13_bestAt 21 = .ok (.getfield 136, 3) := by decide +kernel
theorem dX13_bestAt_24 : decode cX13_bestAt 24 = .ok (.iload 5, 2) := by decide +kernel
theorem dX13_bestAt_26 : decode cX13_bestAt 26 = .ok (.iaload, 1) := by decide +kernel
theorem dX13_bestAt_27 : decode cX13_bestAt 27 = .ok (.aload_n 0, 1) := by decide +kernel
theorem dX13_bestAt_28 : decode cX13_bestAt 28 = .ok (.getfield 136, 3) := by decide +kernel
theorem dX13_bestAt_31 : decode cX13_bestAt 31 = .ok (.iload 4, 2) := by decide +kernel
theorem dX13_bestAt_33 : decode cX13_bestAt 33 = .ok (.iaload, 1) := by decide +kernel
theorem dX13_bestAt_34 : decode cX13_bestAt 34 = .ok (.if_icmp .le 7, 3) := by decide +kernel
theorem dX13_bestAt_37 : decode cX13_bestAt 37 = .ok (.iconst 1, 1) := by decide +kernel
theorem dX13_bestAt_38 : decode cX13_bestAt 38 = .ok (.goto 29, 3) := by decide +kernel
theorem dX13_bestAt_41 : decode cX13_bestAt 41 = .ok (.iconst 0, 1) := by decide +kernel
theorem dX13_bestAt_42 : decode cX13_bestAt 42 = .ok (.goto 25, 3) := by decide +kernel
theorem dX13_bestAt_45 : decode cX13_bestAt 45 = .ok (.aload_n 0, 1) := by decide +kernel
theorem dX13_bestAt_46 : decode cX13_bestAt 46 = .ok (.getfield 136, 3) := by decide +kernel
theorem dX13_bestAt_49 : decode cX13_bestAt 49 = .ok (.iload 5, 2) := by decide +kernel
theorem dX13_bestAt_51 : decode cX13_bestAt 51 = .ok (.iaload, 1) := by decide +kernel
theorem dX13_bestAt_52 : decode cX13_bestAt 52 = .ok (.aload_n 0, 1) := by decide +kernel
theorem dX13_bestAt_53 : decode cX13_bestAt 53 = .ok (.getfield 136, 3) := by decide +kernel
theorem dX13_bestAt_56 : decode cX13_bestAt 56 = .ok (.iload 4, 2) := by decide +kernel
theorem dX13_bestAt_58 : decode cX13_bestAt 58 = .ok (.iaload, 1) := by decide +kernel
theorem dX13_bestAt_59 : decode cX13_bestAt 59 = .ok (.if_icmp .ge 7, 3) := by decide +kernel
theorem dX13_bestAt_62 : decode cX13_bestAt 62 = .ok (.iconst 1, 1) := by decide +kernel
theorem dX13_bestAt_63 : decode cX13_bestAt 63 = .ok (.goto 4, 3) := by decide +kernel
theorem dX13_bestAt_66 : decode cX13_bestAt 66 = .ok (.iconst 0, 1) := by decide +kernel
theorem dX13_bestAt_67 : decode cX13_bestAt 67 = .ok (.istore 6, 2) := by decide +kernel
theorem dX13_bestAt_69 : decode cX13_bestAt 69 = .ok (.aload_n 0, 1) := by decide +kernel
theorem dX13_bestAt_70 : decode cX13_bestAt 70 = .ok (.getfield 136, 3) := by decide +kernel
theorem dX13_bestAt_73 : decode cX13_bestAt 73 = .ok (.iload 5, 2) := by decide +kernel
theorem dX13_bestAt_75 : decode cX13_bestAt 75 = .ok (.iaload, 1) := by decide +kernel
theorem dX13_bestAt_76 : decode cX13_bestAt 76 = .ok (.ldc_w 469, 3) := by decide +kernel
theorem dX13_bestAt_79 : decode cX13_bestAt 79 = .ok (.if_icmp .eq 25, 3) := by decide +kernel
theorem dX13_bestAt_82 : decode cX13_bestAt 82 = .ok (.aload_n 0, 1) := by decide +kernel
theorem dX13_bestAt_83 : decode cX13_bestAt 83 = .ok (.getfield 136, 3) := by decide +kernel
theorem dX13_bestAt_86 : decode cX13_bestAt 86 = .ok (.iload 4, 2) := by decide +kernel
theorem dX13_bestAt_88 : decode cX13_bestAt 88 = .ok (.iaload, 1) := by decide +kernel
theorem dX13_bestAt_89 : decode cX13_bestAt 89 = .ok (.ldc_w 469, 3) := by decide +kernel
theorem dX13_bestAt_92 : decode cX13_bestAt 92 = .ok (.if_icmp .eq 8, 3) := by decide +kernel
theorem dX13_bestAt_95 : decode cX13_bestAt 95 = .ok (.iload 6, 2) := by decide +kernel
theorem dX13_bestAt_97 : decode cX13_bestAt 97 = .ok (.ifCond .eq 7, 3) := by decide +kernel
theorem dX13_bestAt_100 : decode cX13_bestAt 100 = .ok (.iload 5, 2) := by decide +kernel
theorem dX13_bestAt_102 : decode cX13_bestAt 102 = .ok (.istore 4, 2) := by decide +kernel
theorem dX13_bestAt_104 : decode cX13_bestAt 104 = .ok (.iinc 5 1, 3) := by decide +kernel
theorem dX13_bestAt_107 : decode cX13_bestAt 107 = .ok (.goto (-99), 3) := by decide +kernel
theorem dX13_bestAt_110 : decode cX13_bestAt 110 = .ok (.iload 4, 2) := by decide +kernel
theorem dX13_bestAt_112 : decode cX13_bestAt 112 = .ok (.ireturn, 1) := by decide +kernel
theorem dX13_game_0 : decode cX13_game 0 = .ok (.aload_n 0, 1) := by decide +kernel
theorem dX13_game_1 : decode cX13_game 1 = .ok (.iload_n 1, 1) := by decide +kernel
theorem dX13_game_2 : decode cX13_game 2 = .ok (.invokevirtual 364, 3) := by decide +kernel
theorem dX13_game_5 : decode cX13_game 5 = .ok (.ifCond .eq 39, 3) := by decide +kernel
theorem dX13_game_8 : decode cX13_game 8 = .ok (.aload_n 0, 1) := by decide +kernel
theorem dX13_game_9 : decode cX13_game 9 = .ok (.iload_n 2, 1) := by decide +kernel
theorem dX13_game_10 : decode cX13_game 10 = .ok (.invokevirtual 364, 3) := by decide +kernel
theorem dX13_game_13 : decode cX13_game 13 = .ok (.ifCond .eq 31, 3) := by decide +kernel
theorem dX13_game_16 : decode cX13_game 16 = .ok (.iload_n 1, 1) := by decide +kernel
theorem dX13_game_17 : decode cX13_game 17 = .ok (.iload_n 2, 1) := by decide +kernel
theorem dX13_game_18 : decode cX13_game 18 = .ok (.if_icmp .eq 26, 3) := by decide +kernel
theorem dX13_game_21 : decode cX13_game 21 = .ok (.iload_n 3, 1) := by decide +kernel
theorem dX13_game_22 : decode cX13_game 22 = .ok (.i2l, 1) := by decide +kernel
theorem dX13_game_23 : decode cX13_game 23 = .ok (.lconst 1, 1) := by decide +kernel
theorem dX13_game_24 : decode cX13_game 24 = .ok (.ldc2_w 446, 3) := by decide +kernel
theorem dX13_game_27 : decode cX13_game 27 = .ok (.invokestatic 161, 3) := by decide +kernel
theorem dX13_game_30 : decode cX13_game 30 = .ok (.ifCond .eq 14, 3) := by decide +kernel
theorem dX13_game_33 : decode cX13_game 33 = .ok (.iload 4, 2) := by decide +kernel
theorem dX13_game_35 : decode cX13_game 35 = .ok (.i2l, 1) := by decide +kernel
theorem dX13_game_36 : decode cX13_game 36 = .ok (.lconst 0, 1) := by decide +kernel
theorem dX13_game_37 : decode cX13_game 37 = .ok (.lconst 1, 1) := by decide +kernel
theorem dX13_game_38 : decode cX13_game 38 = .ok (.invokestatic 161, 3) := by decide +kernel
theorem dX13_game_41 : decode cX13_game 41 = .ok (.ifCond .ne 7, 3) := by decide +kernel
theorem dX13_game_44 : decode cX13_game 44 = .ok (.sipush (-1000), 3) := by decide +kernel
theorem dX13_game_47 : decode cX13_game 47 = .ok (.ireturn, 1) := by decide +kernel
theorem dX13_game_48 : decode cX13_game 48 = .ok (.aload_n 0, 1) := by decide +kernel
theorem dX13_game_49 : decode cX13_game 49 = .ok (.getfield 9, 3) := by decide +kernel
theorem dX13_game_52 : decode cX13_game 52 = .ok (.iconst 0, 1) := by decide +kernel
theorem dX13_game_53 : decode cX13_game 53 = .ok (.iaload, 1) := by decide +kernel
theorem dX13_game_54 : decode cX13_game 54 = .ok (.istore 5, 2) := by decide +kernel
theorem dX13_game_56 : decode cX13_game 56 = .ok (.iconst 1, 1) := by decide +kernel
theorem dX13_game_57 : decode cX13_game 57 = .ok (.istore 6, 2) := by decide +kernel
theorem dX13_game_59 : decode cX13_game 59 = .ok (.iconst 0, 1) := by decide +kernel
theorem dX13_game_60 : decode cX13_game 60 = .ok (.istore 7, 2) := by decide +kernel
theorem dX13_game_62 : decode cX13_game 62 = .ok (.iload 7, 2) := by decide +kernel
theorem dX13_game_64 : decode cX13_game 64 = .ok (.iload_n 3, 1) := by decide +kernel
theorem dX13_game_65 : decode cX13_game 65 = .ok (.if_icmp .ge 16, 3) := by decide +kernel
theorem dX13_game_68 : decode cX13_game 68 = .ok (.iload 6, 2) := by decide +kernel
theorem dX13_game_70 : decode cX13_game 70 = .ok (.iload 5, 2) := by decide +kernel
theorem dX13_game_72 : decode cX13_game 72 = .ok (.imul, 1) := by decide +kernel
theorem dX13_game_73 : decode cX13_game 73 = .ok (.istore 6, 2) := by decide +kernel
theorem dX13_game_75 : decode cX13_game 75 = .ok (.iinc 7 1, 3) := by decide +kernel
theorem dX13_game_78 : decode cX13_game 78 = .ok (.goto (-16), 3) := by decide +kernel
theorem dX13_game_81 : decode cX13_game 81 = .ok (.aload_n 0, 1) := by decide +kernel
theorem dX13_game_82 : decode cX13_game 82 = .ok (.invokevirtual 450, 3) := by decide +kernel
theorem dX13_game_85 : decode cX13_game 85 = .ok (.iconst 0, 1) := by decide +kernel
theorem dX13_game_86 : decode cX13_game 86 = .ok (.istore 7, 2) := by decide +kernel
theorem dX13_game_88 : decode cX13_game 88 = .ok (.iload 7, 2) := by decide +kernel
theorem dX13_game_90 : decode cX13_game 90 = .ok (.iload 6, 2) := by decide +kernel
theorem dX13_game_92 : decode cX13_game 92 = .ok (.if_icmp .ge 27, 3) := by decide +kernel
theorem dX13_game_95 : decode cX13_game 95 = .ok (.aload_n 0, 1) := by decide +kernel
theorem dX13_game_96 : decode cX13_game 96 = .ok (.getfield 136, 3) := by decide +kernel
theorem dX13_game_99 : decode cX13_game 99 = .ok (.iload 7, 2) := by decide +kernel
theorem dX13_game_101 : decode cX13_game 101 = .ok (.aload_n 0, 1) := by decide +kernel
theorem dX13_game_102 : decode cX13_game 102 = .ok (.iload_n 1, 1) := by decide +kernel
theorem dX13_game_103 : decode cX13_game 103 = .ok (.iload_n 2, 1) := by decide +kernel
theorem dX13_game_104 : decode cX13_game 104 = .ok (.iload_n 3, 1) := by decide +kernel
theorem dX13_game_105 : decode cX13_game 105 = .ok (.iload 7, 2) := by decide +kernel
theorem dX13_game_107 : decode cX13_game 107 = .ok (.iload 6, 2) := by decide +kernel
theorem dX13_game_109 : decode cX13_game 109 = .ok (.invokevirtual 470, 3) := by decide +kernel
theorem dX13_game_112 : decode cX13_game 112 = .ok (.iastore, 1) := by decide +kernel
theorem dX13_game_113 : decode cX13_game 113 = .ok (.iinc 7 1, 3) := by decide +kernel
theorem dX13_game_116 : decode cX13_game 116 = .ok (.goto (-28), 3) := by decide +kernel
theorem dX13_game_119 : decode cX13_game 119 = .ok (.iload_n 3, 1) := by decide +kernel
theorem dX13_game_120 : decode cX13_game 120 = .ok (.iconst 1, 1) := by decide +kernel
theorem dX13_game_121 : decode cX13_game 121 = .ok (.isub, 1) := by decide +kernel
theorem dX13_game_122 : decode cX13_game 122 = .ok (.istore 7, 2) := by decide +kernel
theorem dX13_game_124 : decode cX13_game 124 = .ok (.iload 7, 2) := by decide +kernel
theorem dX13_game_126 : decode cX13_game 126 = .ok (.ifCond .le 67, 3) := by decide +kernel
theorem dX13_game_129 : decode cX13_game 129 = .ok (.iload 6, 2) := by decide +kernel
theorem dX13_game_131 : decode cX13_game 131 = .ok (.iload 5, 2) := by decide +kernel
theorem dX13_game_133 : decode cX13_game 133 = .ok (.idiv, 1) := by decide +kernel
theorem dX13_game_134 : decode cX13_game 134 = .ok (.istore 6, 2) := by decide +kernel
theorem dX13_game_136 : decode cX13_game 136 = .ok (.iconst 0, 1) := by decide +kernel
theorem dX13_game_137 : decode cX13_game 137 = .ok (.istore 8, 2) := by decide +kernel
theorem dX13_game_139 : decode cX13_game 139 = .ok (.iload 8, 2) := by decide +kernel
theorem dX13_game_141 : decode cX13_game 141 = .ok (.iload 6, 2) := by decide +kernel
theorem dX13_game_143 : decode cX13_game 143 = .ok (.if_icmp .ge 44, 3) := by decide +kernel
theorem dX13_game_146 : decode cX13_game 146 = .ok (.aload_n 0, 1) := by decide +kernel
theorem dX13_game_147 : decode cX13_game 147 = .ok (.getfield 136, 3) := by decide +kernel
theorem dX13_game_150 : decode cX13_game 150 = .ok (.iload 8, 2) := by decide +kernel
theorem dX13_game_152 : decode cX13_game 152 = .ok (.aload_n 0, 1) := by decide +kernel
theorem dX13_game_153 : decode cX13_game 153 = .ok (.getfield 136, 3) := by decide +kernel
theorem dX13_game_156 : decode cX13_game 156 = .ok (.aload_n 0, 1) := by decide +kernel
theorem dX13_game_157 : decode cX13_game 157 = .ok (.iload 5, 2) := by decide +kernel
theorem dX13_game_159 : decode cX13_game 159 = .ok (.iload 8, 2) := by decide +kernel
theorem dX13_game_161 : decode cX13_game 161 = .ok (.imul, 1) := by decide +kernel
theorem dX13_game_162 : decode cX13_game 162 = .ok (.iload 5, 2) := by decide +kernel
theorem dX13_game_164 : decode cX13_game 164 = .ok (.iload 7, 2) := by decide +kernel
theorem dX13_game_166 : decode cX13_game 166 = .ok (.iconst 2, 1) := by decide +kernel
theorem dX13_game_167 : decode cX13_game 167 = .ok (.irem, 1) := by decide +kernel
theorem dX13_game_168 : decode cX13_game 168 = .ok (.ifCond .ne 7, 3) := by decide +kernel
theorem dX13_game_171 : decode cX13_game 171 = .ok (.iconst 1, 1) := by decide +kernel
theorem dX13_game_172 : decode cX13_game 172 = .ok (.goto 4, 3) := by decide +kernel
theorem dX13_game_175 : decode cX13_game 175 = .ok (.iconst 0, 1) := by decide +kernel
theorem dX13_game_176 : decode cX13_game 176 = .ok (.invokevirtual 474, 3) := by decide +kernel
theorem dX13_game_179 : decode cX13_game 179 = .ok (.iaload, 1) := by decide +kernel
theorem dX13_game_180 : decode cX13_game 180 = .ok (.iastore, 1) := by decide +kernel
theorem dX13_game_181 : decode cX13_game 181 = .ok (.iinc 8 1, 3) := by decide +kernel
theorem dX13_game_184 : decode cX13_game 184 = .ok (.goto (-45), 3) := by decide +kernel
theorem dX13_game_187 : decode cX13_game 187 = .ok (.iinc 7 (-1), 3) := by decide +kernel
theorem dX13_game_190 : decode cX13_game 190 = .ok (.goto (-66), 3) := by decide +kernel
theorem dX13_game_193 : decode cX13_game 193 = .ok (.aload_n 0, 1) := by decide +kernel
theorem dX13_game_194 : decode cX13_game 194 = .ok (.iconst 0, 1) := by decide +kernel
theorem dX13_game_195 : decode cX13_game 195 = .ok (.iload 5, 2) := by decide +kernel
theorem dX13_game_197 : decode cX13_game 197 = .ok (.iconst 1, 1) := by decide +kernel
theorem dX13_game_198 : decode cX13_game 198 = .ok (.invokevirtual 474, 3) := by decide +kernel
theorem dX13_game_201 : decode cX13_game 201 = .ok (.istore 7, 2) := by decide +kernel
theorem dX13_game_203 : decode cX13_game 203 = .ok (.iload 4, 2) := by decide +kernel
theorem dX13_game_205 : decode cX13_game 205 = .ok (.ifCond .ne 13, 3) := by decide +kernel
theorem dX13_game_208 : decode cX13_game 208 = .ok (.aload_n 0, 1) := by decide +kernel
theorem dX13_game_209 : decode cX13_game 209 = .ok (.getfield 136, 3) := by decide +kernel
theorem dX13_game_212 : decode cX13_game 212 = .ok (.iload 7, 2) := by decide +kernel
theorem dX13_game_214 : decode cX13_game 214 = .ok (.iaload, 1) := by decide +kernel
theorem dX13_game_215 : decode cX13_game 215 = .ok (.goto 5, 3) := by decide +kernel
theorem dX13_game_218 : decode cX13_game 218 = .ok (.iload 7, 2) := by decide +kernel
theorem dX13_game_220 : decode cX13_game 220 = .ok (.ireturn, 1) := by decide +kernel
theorem dX13_laysPlaces_0 : decode cX13_laysPlaces 0 = .ok (.aload_n 0, 1) := by decide +kernel
theorem dX13_laysPlaces_1 : decode cX13_laysPlaces 1 = .ok (.invokevirtual 450, 3) := by decide +kernel
theorem dX13_laysPlaces_4 : decode cX13_laysPlaces 4 = .ok (.iconst 0, 1) := by decide +kernel
theorem dX13_laysPlaces_5 : decode cX13_laysPlaces 5 = .ok (.istore 4, 2) := by decide +kernel
theorem dX13_laysPlaces_7 : decode cX13_laysPlaces 7 = .ok (.iload 4, 2) := by decide +kernel
theorem dX13_laysPlaces_9 : decode cX13_laysPlaces 9 = .ok (.aload_n 0, 1) := by decide +kernel
theorem dX13_laysPlaces_10 : decode cX13_laysPlaces 10 = .ok (.getfield 9, 3) := by decide +kernel
theorem dX13_laysPlaces_13 : decode cX13_laysPlaces 13 = .ok (.iconst 0, 1) := by decide +kernel
theorem dX13_laysPlaces_14 : decode cX13_laysPlaces 14 = .ok (.iaload, 1) := by decide +kernel
theorem dX13_laysPlaces_15 : decode cX13_laysPlaces 15 = .ok (.if_icmp .ge 92, 3) := by decide +kernel
theorem dX13_laysPlaces_18 : decode cX13_laysPlaces 18 = .ok (.iconst 0, 1) := by decide +kernel
theorem dX13_laysPlaces_19 : decode cX13_laysPlaces 19 = .ok (.istore 5, 2) := by decide +kernel
theorem dX13_laysPlaces_21 : decode cX13_laysPlaces 21 = .ok (.iload 5, 2) := by decide +kernel
theorem dX13_laysPlaces_23 : decode cX13_laysPlaces 23 = .ok (.aload_n 0, 1) := by decide +kernel
theorem dX13_laysPlaces_24 : decode cX13_laysPlaces 24 = .ok (.getfield 9, 3) := by decide +kernel
theorem dX13_laysPlaces_27 : decode cX13_laysPlaces 27 = .ok (.iconst 0, 1) := by decide +kernel
theorem dX13_laysPlaces_28 : decode cX13_laysPlaces 28 = .ok (.iaload, 1) := by decide +kernel
theorem dX13_laysPlaces_29 : decode cX13_laysPlaces 29 = .ok (.if_icmp .ge 72, 3) := by decide +kernel
theorem dX13_laysPlaces_32 : decode cX13_laysPlaces 32 = .ok (.aload_n 0, 1) := by decide +kernel
theorem dX13_laysPlaces_33 : decode cX13_laysPlaces 33 = .ok (.getfield 13, 3) := by decide +kernel
theorem dX13_laysPlaces_36 : decode cX13_laysPlaces 36 = .ok (.iload_n 1, 1) := by decide +kernel
theorem dX13_laysPlaces_37 : decode cX13_laysPlaces 37 = .ok (.iload 4, 2) := by decide +kernel
theorem dX13_laysPlaces_39 : decode cX13_laysPlaces 39 = .ok (.iastore, 1) := by decide +kernel
theorem dX13_laysPlaces_40 : decode cX13_laysPlaces 40 = .ok (.aload_n 0, 1) := by decide +kernel
theorem dX13_laysPlaces_41 : decode cX13_laysPlaces 41 = .ok (.getfield 13, 3) := by decide +kernel
theorem dX13_laysPlaces_44 : decode cX13_laysPlaces 44 = .ok (.iload_n 2, 1) := by decide +kernel
theorem dX13_laysPlaces_45 : decode cX13_laysPlaces 45 = .ok (.iload 5, 2) := by decide +kernel
theorem dX13_laysPlaces_47 : decode cX13_laysPlaces 47 = .ok (.iastore, 1) := by decide +kernel
theorem dX13_laysPlaces_48 : decode cX13_laysPlaces 48 = .ok (.aload_n 0, 1) := by decide +kernel
theorem dX13_laysPlaces_49 : decode cX13_laysPlaces 49 = .ok (.iload_n 3, 1) := by decide +kernel
theorem dX13_laysPlaces_50 : decode cX13_laysPlaces 50 = .ok (.invokevirtual 453, 3) := by decide +kernel
theorem dX13_laysPlaces_53 : decode cX13_laysPlaces 53 = .ok (.aload_n 0, 1) := by decide +kernel
theorem dX13_laysPlaces_54 : decode cX13_laysPlaces 54 = .ok (.getfield 139, 3) := by decide +kernel
theorem dX13_laysPlaces_57 : decode cX13_laysPlaces 57 = .ok (.bipush 8, 2) := by decide +kernel
theorem dX13_laysPlaces_59 : decode cX13_laysPlaces 59 = .ok (.iload 4, 2) := by decide +kernel
theorem dX13_laysPlaces_61 : decode cX13_laysPlaces 61 = .ok (.imul, 1) := by decide +kernel
theorem dX13_laysPlaces_62 : decode cX13_laysPlaces 62 = .ok (.iload 5, 2) := by decide +kernel
theorem dX13_laysPlaces_64 : decode cX13_laysPlaces 64 = .ok (.iadd, 1) := by decide +kernel
theorem dX13_laysPlaces_65 : decode cX13_laysPlaces 65 = .ok (.aload_n 0, 1) := by decide +kernel
theorem dX13_laysPlaces_66 : decode cX13_laysPlaces 66 = .ok (.getfield 22, 3) := by decide +kernel
theorem dX13_laysPlaces_69 : decode cX13_laysPlaces 69 = .ok (.iload_n 1, 1) := by decide +kernel
theorem dX13_laysPlaces_70 : decode cX13_laysPlaces 70 = .ok (.iaload, 1) := by decide +kernel
theorem dX13_laysPlaces_71 : decode cX13_laysPlaces 71 = .ok (.iastore, 1) := by decide +kernel
theorem dX13_laysPlaces_72 : decode cX13_laysPlaces 72 = .ok (.aload_n 0, 1) := by decide +kernel
theorem dX13_laysPlaces_73 : decode cX13_laysPlaces 73 = .ok (.getfield 142, 3) := by decide +kernel
theorem dX13_laysPlaces_76 : decode cX13_laysPlaces 76 = .ok (.bipush 8, 2) := by decide +kernel
theorem dX13_laysPlaces_78 : decode cX13_laysPlaces 78 = .ok (.iload 4, 2) := by decide +kernel
theorem dX13_laysPlaces_80 : decode cX13_laysPlaces 80 = .ok (.imul, 1) := by decide +kernel
theorem dX13_laysPlaces_81 : decode cX13_laysPlaces 81 = .ok (.iload 5, 2) := by decide +kernel
theorem dX13_laysPlaces_83 : decode cX13_laysPlaces 83 = .ok (.iadd, 1) := by decide +kernel
theorem dX13_laysPlaces_84 : decode cX13_laysPlaces 84 = .ok (.aload_n 0, 1) := by decide +kernel
theorem dX13_laysPlaces_85 : decode cX13_laysPlaces 85 = .ok (.getfield 22, 3) := by decide +kernel
theorem dX13_laysPlaces_88 : decode cX13_laysPlaces 88 = .ok (.iload_n 2, 1) := by decide +kernel
theorem dX13_laysPlaces_89 : decode cX13_laysPlaces 89 = .ok (.iaload, 1) := by decide +kernel
theorem dX13_laysPlaces_90 : decode cX13_laysPlaces 90 = .ok (.iastore, 1) := by decide +kernel
theorem dX13_laysPlaces_91 : decode cX13_laysPlaces 91 = .ok (.aload_n 0, 1) := by decide +kernel
theorem dX13_laysPlaces_92 : decode cX13_laysPlaces 92 = .ok (.invokevirtual 456, 3) := by decide +kernel
theorem dX13_laysPlaces_95 : decode cX13_laysPlaces 95 = .ok (.iinc 5 1, 3) := by decide +kernel
theorem dX13_laysPlaces_98 : decode cX13_laysPlaces 98 = .ok (.goto (-77), 3) := by decide +kernel
theorem dX13_laysPlaces_101 : decode cX13_laysPlaces 101 = .ok (.iinc 4 1, 3) := by decide +kernel
theorem dX13_laysPlaces_104 : decode cX13_laysPlaces 104 = .ok (.goto (-97), 3) := by decide +kernel
