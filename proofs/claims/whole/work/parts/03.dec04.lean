theorem dX13_opens_9 : decode cX13_opens 9 = .ok (.if_icmp .ne 31, 3) := by decide +kernel
theorem dX13_opens_12 : decode cX13_opens 12 = .ok (.aload_n 0, 1) := by decide +kernel
theorem dX13_opens_13 : decode cX13_opens 13 = .ok (.getfield 267, 3) := by decide +kernel
theorem dX13_opens_16 : decode cX13_opens 16 = .ok (.bipush 10, 2) := by decide +kernel
theorem dX13_opens_18 : decode cX13_opens 18 = .ok (.if_icmp .ne 12, 3) := by decide +kernel
theorem dX13_opens_21 : decode cX13_opens 21 = .ok (.aload_n 0, 1) := by decide +kernel
theorem dX13_opens_22 : decode cX13_opens 22 = .ok (.iconst 2, 1) := by decide +kernel
theorem dX13_opens_23 : decode cX13_opens 23 = .ok (.aload_n 0, 1) := by decide +kernel
theorem dX13_opens_24 : decode cX13_opens 24 = .ok (.getfield 197, 3) := by decide +kernel
theorem dX13_opens_27 : decode cX13_opens 27 = .ok (.invokevirtual 233, 3) := by decide +kernel
theorem dX13_opens_30 : decode cX13_opens 30 = .ok (.aload_n 0, 1) := by decide +kernel
theorem dX13_opens_31 : decode cX13_opens 31 = .ok (.dup, 1) := by decide +kernel
theorem dX13_opens_32 : decode cX13_opens 32 = .ok (.getfield 267, 3) := by decide +kernel
theorem dX13_opens_35 : decode cX13_opens 35 = .ok (.iconst 1, 1) := by decide +kernel
theorem dX13_opens_36 : decode cX13_opens 36 = .ok (.iadd, 1) := by decide +kernel
theorem dX13_opens_37 : decode cX13_opens 37 = .ok (.putfield 267, 3) := by decide +kernel
theorem dX13_opens_40 : decode cX13_opens 40 = .ok (.aload_n 0, 1) := by decide +kernel
theorem dX13_opens_41 : decode cX13_opens 41 = .ok (.getfield 117, 3) := by decide +kernel
theorem dX13_opens_44 : decode cX13_opens 44 = .ok (.aload_n 0, 1) := by decide +kernel
theorem dX13_opens_45 : decode cX13_opens 45 = .ok (.getfield 264, 3) := by decide +kernel
theorem dX13_opens_48 : decode cX13_opens 48 = .ok (.iload_n 1, 1) := by decide +kernel
theorem dX13_opens_49 : decode cX13_opens 49 = .ok (.iastore, 1) := by decide +kernel
theorem dX13_opens_50 : decode cX13_opens 50 = .ok (.aload_n 0, 1) := by decide +kernel
theorem dX13_opens_51 : decode cX13_opens 51 = .ok (.dup, 1) := by decide +kernel
theorem dX13_opens_52 : decode cX13_opens 52 = .ok (.getfield 264, 3) := by decide +kernel
theorem dX13_opens_55 : decode cX13_opens 55 = .ok (.iconst 1, 1) := by decide +kernel
theorem dX13_opens_56 : decode cX13_opens 56 = .ok (.iadd, 1) := by decide +kernel
theorem dX13_opens_57 : decode cX13_opens 57 = .ok (.putfield 264, 3) := by decide +kernel
theorem dX13_opens_60 : decode cX13_opens 60 = .ok (.return_, 1) := by decide +kernel
theorem dX13_answers_0 : decode cX13_answers 0 = .ok (.aload_n 0, 1) := by decide +kernel
theorem dX13_answers_1 : decode cX13_answers 1 = .ok (.invokevirtual 270, 3) := by decide +kernel
theorem dX13_answers_4 : decode cX13_answers 4 = .ok (.iload_n 1, 1) := by decide +kernel
theorem dX13_answers_5 : decode cX13_answers 5 = .ok (.if_icmp .ne 49, 3) := by decide +kernel
theorem dX13_answers_8 : decode cX13_answers 8 = .ok (.aload_n 0, 1) := by decide +kernel
theorem dX13_answers_9 : decode cX13_answers 9 = .ok (.getfield 194, 3) := by decide +kernel
theorem dX13_answers_12 : decode cX13_answers 12 = .ok (.ifCond .ne 42, 3) := by decide +kernel
theorem dX13_answers_15 : decode cX13_answers 15 = .ok (.aload_n 0, 1) := by decide +kernel
theorem dX13_answers_16 : decode cX13_answers 16 = .ok (.iload_n 1, 1) := by decide +kernel
theorem dX13_answers_17 : decode cX13_answers 17 = .ok (.iconst 0, 1) := by decide +kernel
theorem dX13_answers_18 : decode cX13_answers 18 = .ok (.invokevirtual 249, 3) := by decide +kernel
theorem dX13_answers_21 : decode cX13_answers 21 = .ok (.aload_n 0, 1) := by decide +kernel
theorem dX13_answers_22 : decode cX13_answers 22 = .ok (.dup, 1) := by decide +kernel
theorem dX13_answers_23 : decode cX13_answers 23 = .ok (.getfield 264, 3) := by decide +kernel
theorem dX13_answers_26 : decode cX13_answers 26 = .ok (.iconst 1, 1) := by decide +kernel
theorem dX13_answers_27 : decode cX13_answers 27 = .ok (.isub, 1) := by decide +kernel
theorem dX13_answers_28 : decode cX13_answers 28 = .ok (.putfield 264, 3) := by decide +kernel
theorem dX13_answers_31 : decode cX13_answers 31 = .ok (.aload_n 0, 1) := by decide +kernel
theorem dX13_answers_32 : decode cX13_answers 32 = .ok (.dup, 1) := by decide +kernel
theorem dX13_answers_33 : decode cX13_answers 33 = .ok (.getfield 267, 3) := by decide +kernel
theorem dX13_answers_36 : decode cX13_answers 36 = .ok (.iload_n 1, 1) := by decide +kernel
theorem dX13_answers_37 : decode cX13_answers 37 = .ok (.bipush 9, 2) := by decide +kernel
theorem dX13_answers_39 : decode cX13_answers 39 = .ok (.if_icmp .ne 7, 3) := by decide +kernel
theorem dX13_answers_42 : decode cX13_answers 42 = .ok (.iconst 1, 1) := by decide +kernel
theorem dX13_answers_43 : decode cX13_answers 43 = .ok (.goto 4, 3) := by decide +kernel
theorem dX13_answers_46 : decode cX13_answers 46 = .ok (.iconst 0, 1) := by decide +kernel
theorem dX13_answers_47 : decode cX13_answers 47 = .ok (.isub, 1) := by decide +kernel
theorem dX13_answers_48 : decode cX13_answers 48 = .ok (.putfield 267, 3) := by decide +kernel
theorem dX13_answers_51 : decode cX13_answers 51 = .ok (.goto (-51), 3) := by decide +kernel
theorem dX13_answers_54 : decode cX13_answers 54 = .ok (.return_, 1) := by decide +kernel
theorem dX13_fact_0 : decode cX13_fact 0 = .ok (.aload_n 0, 1) := by decide +kernel
theorem dX13_fact_1 : decode cX13_fact 1 = .ok (.invokevirtual 217, 3) := by decide +kernel
theorem dX13_fact_4 : decode cX13_fact 4 = .ok (.aload_n 0, 1) := by decide +kernel
theorem dX13_fact_5 : decode cX13_fact 5 = .ok (.ldc_w 273, 3) := by decide +kernel
theorem dX13_fact_8 : decode cX13_fact 8 = .ok (.invokevirtual 220, 3) := by decide +kernel
theorem dX13_fact_11 : decode cX13_fact 11 = .ok (.ifCond .eq 21, 3) := by decide +kernel
theorem dX13_fact_14 : decode cX13_fact 14 = .ok (.aload_n 0, 1) := by decide +kernel
theorem dX13_fact_15 : decode cX13_fact 15 = .ok (.bipush 9, 2) := by decide +kernel
theorem dX13_fact_17 : decode cX13_fact 17 = .ok (.invokevirtual 275, 3) := by decide +kernel
theorem dX13_fact_20 : decode cX13_fact 20 = .ok (.aload_n 0, 1) := by decide +kernel
theorem dX13_fact_21 : decode cX13_fact 21 = .ok (.dup, 1) := by decide +kernel
theorem dX13_fact_22 : decode cX13_fact 22 = .ok (.getfield 197, 3) := by decide +kernel
theorem dX13_fact_25 : decode cX13_fact 25 = .ok (.iconst 3, 1) := by decide +kernel
theorem dX13_fact_26 : decode cX13_fact 26 = .ok (.iadd, 1) := by decide +kernel
theorem dX13_fact_27 : decode cX13_fact 27 = .ok (.putfield 197, 3) := by decide +kernel
theorem dX13_fact_30 : decode cX13_fact 30 = .ok (.iconst 0, 1) := by decide +kernel
theorem dX13_fact_31 : decode cX13_fact 31 = .ok (.ireturn, 1) := by decide +kernel
theorem dX13_fact_32 : decode cX13_fact 32 = .ok (.aload_n 0, 1) := by decide +kernel
theorem dX13_fact_33 : decode cX13_fact 33 = .ok (.invokevirtual 200, 3) := by decide +kernel
theorem dX13_fact_36 : decode cX13_fact 36 = .ok (.bipush 91, 2) := by decide +kernel
theorem dX13_fact_38 : decode cX13_fact 38 = .ok (.if_icmp .ne 21, 3) := by decide +kernel
theorem dX13_fact_41 : decode cX13_fact 41 = .ok (.aload_n 0, 1) := by decide +kernel
theorem dX13_fact_42 : decode cX13_fact 42 = .ok (.bipush 12, 2) := by decide +kernel
theorem dX13_fact_44 : decode cX13_fact 44 = .ok (.invokevirtual 275, 3) := by decide +kernel
theorem dX13_fact_47 : decode cX13_fact 47 = .ok (.aload_n 0, 1) := by decide +kernel
theorem dX13_fact_48 : decode cX13_fact 48 = .ok (.dup, 1) := by decide +kernel
theorem dX13_fact_49 : decode cX13_fact 49 = .ok (.getfield 197, 3) := by decide +kernel
theorem dX13_fact_52 : decode cX13_fact 52 = .ok (.iconst 1, 1) := by decide +kernel
theorem dX13_fact_53 : decode cX13_fact 53 = .ok (.iadd, 1) := by decide +kernel
theorem dX13_fact_54 : decode cX13_fact 54 = .ok (.putfield 197, 3) := by decide +kernel
theorem dX13_fact_57 : decode cX13_fact 57 = .ok (.iconst 0, 1) := by decide +kernel
theorem dX13_fact_58 : decode cX13_fact 58 = .ok (.ireturn, 1) := by decide +kernel
theorem dX13_fact_59 : decode cX13_fact 59 = .ok (.aload_n 0, 1) := by decide +kernel
theorem dX13_fact_60 : decode cX13_fact 60 = .ok (.invokevirtual 278, 3) := by decide +kernel
theorem dX13_fact_63 : decode cX13_fact 63 = .ok (.iconst 1, 1) := by decide +kernel
theorem dX13_fact_64 : decode cX13_fact 64 = .ok (.ireturn, 1) := by decide +kernel
theorem dX13_test_0 : decode cX13_test 0 = .ok (.aload_n 0, 1) := by decide +kernel
theorem dX13_test_1 : decode cX13_test 1 = .ok (.iconst 0, 1) := by decide +kernel
theorem dX13_test_2 : decode cX13_test 2 = .ok (.putfield 264, 3) := by decide +kernel
theorem dX13_test_5 : decode cX13_test 5 = .ok (.iconst 1, 1) := by decide +kernel
theorem dX13_test_6 : decode cX13_test 6 = .ok (.istore_n 1, 1) := by decide +kernel
theorem dX13_test_7 : decode cX13_test 7 = .ok (.iconst 1, 1) := by decide +kernel
theorem dX13_test_8 : decode cX13_test 8 = .ok (.istore_n 2, 1) := by decide +kernel
theorem dX13_test_9 : decode cX13_test 9 = .ok (.iload_n 2, 1) := by decide +kernel
theorem dX13_test_10 : decode cX13_test 10 = .ok (.ifCond .eq 192, 3) := by decide +kernel
theorem dX13_test_13 : decode cX13_test 13 = .ok (.aload_n 0, 1) := by decide +kernel
theorem dX13_test_14 : decode cX13_test 14 = .ok (.getfield 194, 3) := by decide +kernel
theorem dX13_test_17 : decode cX13_test 17 = .ok (.ifCond .ne 185, 3) := by decide +kernel
theorem dX13_test_20 : decode cX13_test 20 = .ok (.iload_n 1, 1) := by decide +kernel
theorem dX13_test_21 : decode cX13_test 21 = .ok (.ifCond .eq 19, 3) := by decide +kernel
theorem dX13_test_24 : decode cX13_test 24 = .ok (.aload_n 0, 1) := by decide +kernel
theorem dX13_test_25 : decode cX13_test 25 = .ok (.invokevirtual 281, 3) := by decide +kernel
theorem dX13_test_28 : decode cX13_test 28 = .ok (.ifCond .ne 7, 3) := by decide +kernel
theorem dX13_test_31 : decode cX13_test 31 = .ok (.iconst 1, 1) := by decide +kernel
theorem dX13_test_32 : decode cX13_test 32 = .ok (.goto 4, 3) := by decide +kernel
theorem dX13_test_35 : decode cX13_test 35 = .ok (.iconst 0, 1) := by decide +kernel
theorem dX13_test_36 : decode cX13_test 36 = .ok (.istore_n 1, 1) := by decide +kernel
theorem dX13_test_37 : decode cX13_test 37 = .ok (.goto (-28), 3) := by decide +kernel
theorem dX13_test_40 : decode cX13_test 40 = .ok (.aload_n 0, 1) := by decide +kernel
theorem dX13_test_41 : decode cX13_test 41 = .ok (.bipush 9, 2) := by decide +kernel
theorem dX13_test_43 : decode cX13_test 43 = .ok (.invokevirtual 284, 3) := by decide +kernel
theorem dX13_test_46 : decode cX13_test 46 = .ok (.aload_n 0, 1) := by decide +kernel
theorem dX13_test_47 : decode cX13_test 47 = .ok (.invokevirtual 217, 3) := by decide +kernel
theorem dX13_test_50 : decode cX13_test 50 = .ok (.aload_n 0, 1) := by decide +kernel
theorem dX13_test_51 : decode cX13_test 51 = .ok (.ldc_w 287, 3) := by decide +kernel
theorem dX13_test_54 : decode cX13_test 54 = .ok (.invokevirtual 220, 3) := by decide +kernel
theorem dX13_test_57 : decode cX13_test 57 = .ok (.istore_n 3, 1) := by decide +kernel
theorem dX13_test_58 : decode cX13_test 58 = .ok (.aload_n 0, 1) := by decide +kernel
theorem dX13_test_59 : decode cX13_test 59 = .ok (.ldc_w 289, 3) := by decide +kernel
theorem dX13_test_62 : decode cX13_test 62 = .ok (.invokevirtual 220, 3) := by decide +kernel
theorem dX13_test_65 : decode cX13_test 65 = .ok (.istore 4, 2) := by decide +kernel
theorem dX13_test_67 : decode cX13_test 67 = .ok (.aload_n 0, 1) := by decide +kernel
theorem dX13_test_68 : decode cX13_test 68 = .ok (.bipush 10, 2) := by decide +kernel
theorem dX13_test_70 : decode cX13_test 70 = .ok (.invokevirtual 284, 3) := by decide +kernel
theorem dX13_test_73 : decode cX13_test 73 = .ok (.iload_n 3, 1) := by decide +kernel
theorem dX13_test_74 : decode cX13_test 74 = .ok (.ifCond .ne 8, 3) := by decide +kernel
theorem dX13_test_77 : decode cX13_test 77 = .ok (.iload 4, 2) := by decide +kernel
theorem dX13_test_79 : decode cX13_test 79 = .ok (.ifCond .eq 52, 3) := by decide +kernel
theorem dX13_test_82 : decode cX13_test 82 = .ok (.iload 4, 2) := by decide +kernel
theorem dX13_test_84 : decode cX13_test 84 = .ok (.ifCond .eq 9, 3) := by decide +kernel
theorem dX13_test_87 : decode cX13_test 87 = .ok (.aload_n 0, 1) := by decide +kernel
theorem dX13_test_88 : decode cX13_test 88 = .ok (.bipush 11, 2) := by decide +kernel
theorem dX13_test_90 : decode cX13_test 90 = .ok (.invokevirtual 284, 3) := by decide +kernel
theorem dX13_test_93 : decode cX13_test 93 = .ok (.aload_n 0, 1) := by decide +kernel
theorem dX13_test_94 : decode cX13_test 94 = .ok (.iload_n 3, 1) := by decide +kernel
theorem dX13_test_95 : decode cX13_test 95 = .ok (.ifCond .eq 8, 3) := by decide +kernel
theorem dX13_test_98 : decode cX13_test 98 = .ok (.bipush 10, 2) := by decide +kernel
theorem dX13_test_100 : decode cX13_test 100 = .ok (.goto 5, 3) := by decide +kernel
theorem dX13_test_103 : decode cX13_test 103 = .ok (.bipush 11, 2) := by decide +kernel
theorem dX13_test_105 : decode cX13_test 105 = .ok (.invokevirtual 275, 3) := by decide +kernel
theorem dX13_test_108 : decode cX13_test 108 = .ok (.aload_n 0, 1) := by decide +kernel
theorem dX13_test_109 : decode cX13_test 109 = .ok (.dup, 1) := by decide +kernel
theorem dX13_test_110 : decode cX13_test 110 = .ok (.getfield 197, 3) := by decide +kernel
theorem dX13_test_113 : decode cX13_test 113 = .ok (.iload_n 3, 1) := by decide +kernel
theorem dX13_test_114 : decode cX13_test 114 = .ok (.ifCond .eq 7, 3) := by decide +kernel
theorem dX13_test_117 : decode cX13_test 117 = .ok (.iconst 3, 1) := by decide +kernel
theorem dX13_test_118 : decode cX13_test 118 = .ok (.goto 4, 3) := by decide +kernel
theorem dX13_test_121 : decode cX13_test 121 = .ok (.iconst 2, 1) := by decide +kernel
theorem dX13_test_122 : decode cX13_test 122 = .ok (.iadd, 1) := by decide +kernel
theorem dX13_test_123 : decode cX13_test 123 = .ok (.putfield 197, 3) := by decide +kernel
theorem dX13_test_126 : decode cX13_test 126 = .ok (.iconst 1, 1) := by decide +kernel
theorem dX13_test_127 : decode cX13_test 127 = .ok (.istore_n 1, 1) := by decide +kernel
theorem dX13_test_128 : decode cX13_test 128 = .ok (.goto 71, 3) := by decide +kernel
theorem dX13_test_131 : decode cX13_test 131 = .ok (.aload_n 0, 1) := by decide +kernel
theorem dX13_test_132 : decode cX13_test 132 = .ok (.bipush 11, 2) := by decide +kernel
theorem dX13_test_134 : decode cX13_test 134 = .ok (.invokevirtual 284, 3) := by decide +kernel
theorem dX13_test_137 : decode cX13_test 137 = .ok (.aload_n 0, 1) := by decide +kernel
theorem dX13_test_138 : decode cX13_test 138 = .ok (.invokevirtual 270, 3) := by decide +kernel
theorem dX13_test_141 : decode cX13_test 141 = .ok (.bipush 12, 2) := by decide +kernel
theorem dX13_test_143 : decode cX13_test 143 = .ok (.if_icmp .ne 54, 3) := by decide +kernel
theorem dX13_test_146 : decode cX13_test 146 = .ok (.aload_n 0, 1) := by decide +kernel
theorem dX13_test_147 : decode cX13_test 147 = .ok (.invokevirtual 200, 3) := by decide +kernel
theorem dX13_test_150 : decode cX13_test 150 = .ok (.bipush 93, 2) := by decide +kernel
theorem dX13_test_152 : decode cX13_test 152 = .ok (.if_icmp .eq 12, 3) := by decide +kernel
theorem dX13_test_155 : decode cX13_test 155 = .ok (.aload_n 0, 1) := by decide +kernel
theorem dX13_test_156 : decode cX13_test 156 = .ok (.iconst 0, 1) := by decide +kernel
theorem dX13_test_157 : decode cX13_test 157 = .ok (.aload_n 0, 1) := by decide +kernel
theorem dX13_test_158 : decode cX13_test 158 = .ok (.getfield 197, 3) := by decide +kernel
theorem dX13_test_161 : decode cX13_test 161 = .ok (.invokevirtual 233, 3) := by decide +kernel
theorem dX13_test_164 : decode cX13_test 164 = .ok (.aload_n 0, 1) := by decide +kernel
theorem dX13_test_165 : decode cX13_test 165 = .ok (.dup, 1) := by decide +kernel
theorem dX13_test_166 : decode cX13_test 166 = .ok (.getfield 197, 3) := by decide +kernel
theorem dX13_test_169 : decode cX13_test 169 = .ok (.iconst 1, 1) := by decide +kernel
theorem dX13_test_170 : decode cX13_test 170 = .ok (.iadd, 1) := by decide +kernel
theorem dX13_test_171 : decode cX13_test 171 = .ok (.putfield 197, 3) := by decide +kernel
theorem dX13_test_174 : decode cX13_test 174 = .ok (.aload_n 0, 1) := by decide +kernel
theorem dX13_test_175 : decode cX13_test 175 = .ok (.dup, 1) := by decide +kernel
theorem dX13_test_176 : decode cX13_test 176 = .ok (.getfield 264, 3) := by decide +kernel
theorem dX13_test_179 : decode cX13_test 179 = .ok (.iconst 1, 1) := by decide +kernel
theorem dX13_test_180 : decode cX13_test 180 = .ok (.isub, 1) := by decide +kernel
theorem dX13_test_181 : decode cX13_test 181 = .ok (.putfield 264, 3) := by decide +kernel
theorem dX13_test_184 : decode cX13_test 184 = .ok (.aload_n 0, 1) := by decide +kernel
theorem dX13_test_185 : decode cX13_test 185 = .ok (.dup, 1) := by decide +kernel
theorem dX13_test_186 : decode cX13_test 186 = .ok (.getfield 267, 3) := by decide +kernel
theorem dX13_test_189 : decode cX13_test 189 = .ok (.iconst 1, 1) := by decide +kernel
theorem dX13_test_190 : decode cX13_test 190 = .ok (.isub, 1) := by decide +kernel
theorem dX13_test_191 : decode cX13_test 191 = .ok (.putfield 267, 3) := by decide +kernel
theorem dX13_test_194 : decode cX13_test 194 = .ok (.goto 5, 3) := by decide +kernel
theorem dX13_test_197 : decode cX13_test 197 = .ok (.iconst 0, 1) := by decide +kernel
theorem dX13_test_198 : decode cX13_test 198 = .ok (.istore_n 2, 1) := by decide +kernel
theorem dX13_test_199 : decode cX13_test 199 = .ok (.goto (-190), 3) := by decide +kernel
theorem dX13_test_202 : decode cX13_test 202 = .ok (.return_, 1) := by decide +kernel
theorem dX13_amount_0 : decode cX13_amount 0 = .ok (.aload_n 0, 1) := by decide +kernel
theorem dX13_amount_1 : decode cX13_amount 1 = .ok (.invokevirtual 217, 3) := by decide +kernel
theorem dX13_amount_4 : decode cX13_amount 4 = .ok (.aload_n 0, 1) := by decide +kernel
theorem dX13_amount_5 : decode cX13_amount 5 = .ok (.getfield 197, 3) := by decide +kernel
theorem dX13_amount_8 : decode cX13_amount 8 = .ok (.istore_n 3, 1) := by decide +kernel
theorem dX13_amount_9 : decode cX13_amount 9 = .ok (.aload_n 0, 1) := by decide +kernel
theorem dX13_amount_10 : decode cX13_amount 10 = .ok (.getfield 194, 3) := by decide +kernel
theorem dX13_amount_13 : decode cX13_amount 13 = .ok (.ifCond .ne 12, 3) := by decide +kernel
theorem dX13_amount_16 : decode cX13_amount 16 = .ok (.aload_n 0, 1) := by decide +kernel
theorem dX13_amount_17 : decode cX13_amount 17 = .ok (.ldc 241, 2) := by decide +kernel
theorem dX13_amount_19 : decode cX13_amount 19 = .ok (.invokevirtual 242, 3) := by decide +kernel
theorem dX13_amount_22 : decode cX13_amount 22 = .ok (.goto 4, 3) := by decide +kernel
theorem dX13_amount_25 : decode cX13_amount 25 = .ok (.iconst 0, 1) := by decide +kernel
theorem dX13_amount_26 : decode cX13_amount 26 = .ok (.istore 4, 2) := by decide +kernel
theorem dX13_amount_28 : decode cX13_amount 28 = .ok (.aload_n 0, 1) := by decide +kernel
theorem dX13_amount_29 : decode cX13_amount 29 = .ok (.getfield 194, 3) := by decide +kernel
theorem dX13_amount_32 : decode cX13_amount 32 = .ok (.ifCond .ne 22, 3) := by decide +kernel
theorem dX13_amount_35 : decode cX13_amount 35 = .ok (.iload 4, 2) := by decide +kernel
theorem dX13_amount_37 : decode cX13_amount 37 = .ok (.i2l, 1) := by decide +kernel
theorem dX13_amount_38 : decode cX13_amount 38 = .ok (.iload_n 1, 1) := by decide +kernel
theorem dX13_amount_39 : decode cX13_amount 39 = .ok (.i2l, 1) := by decide +kernel
theorem dX13_amount_40 : decode cX13_amount 40 = .ok (.iload_n 2, 1) := by decide +kernel
theorem dX13_amount_41 : decode cX13_amount 41 = .ok (.i2l, 1) := by decide +kernel
theorem dX13_amount_42 : decode cX13_amount 42 = .ok (.invokestatic 161, 3) := by decide +kernel
theorem dX13_amount_45 : decode cX13_amount 45 = .ok (.ifCond .ne 9, 3) := by decide +kernel
theorem dX13_amount_48 : decode cX13_amount 48 = .ok (.aload_n 0, 1) := by decide +kernel
theorem dX13_amount_49 : decode cX13_amount 49 = .ok (.iconst 1, 1) := by decide +kernel
theorem dX13_amount_50 : decode cX13_amount 50 = .ok (.iload_n 3, 1) := by decide +kernel
theorem dX13_amount_51 : decode cX13_amount 51 = .ok (.invokevirtual 233, 3) := by decide +kernel
theorem dX13_amount_54 : decode cX13_amount 54 = .ok (.iload 4, 2) := by decide +kernel
theorem dX13_amount_56 : decode cX13_amount 56 = .ok (.ireturn, 1) := by decide +kernel
theorem dX13_unlikePlace_0 : decode cX13_unlikePlace 0 = .ok (.aload_n 0, 1) := by decide +kernel
theorem dX13_unlikePlace_1 : decode cX13_unlikePlace 1 = .ok (.invokevirtual 217, 3) := by decide +kernel
theorem dX13_unlikePlace_4 : decode cX13_unlikePlace 4 = .ok (.aload_n 0, 1) := by decide +kernel
theorem dX13_unlikePlace_5 : decode cX13_unlikePlace 5 = .ok (.getfield 197, 3) := by decide +kernel
theorem dX13_unlikePlace_8 : decode cX13_unlikePlace 8 = .ok (.istore_n 2, 1) := by decide +kernel
theorem dX13_unlikePlace_9 : decode cX13_unlikePlace 9 = .ok (.aload_n 0, 1) := by decide +kernel
theorem dX13_unlikePlace_10 : decode cX13_unlikePlace 10 = .ok (.iconst 0, 1) := by decide +kernel
theorem dX13_unlikePlace_11 : decode cX13_unlikePlace 11 = .ok (.aload_n 0, 1) := by decide +kernel
theorem dX13_unlikePlace_12 : decode cX13_unlikePlace 12 = .ok (.getfield 67, 3) := by decide +kernel
theorem dX13_unlikePlace_15 : decode cX13_unlikePlace 15 = .ok (.iconst 0, 1) := by decide +kernel
theorem dX13_unlikePlace_16 : decode cX13_unlikePlace 16 = .ok (.iaload, 1) := by decide +kernel
theorem dX13_unlikePlace_17 : decode cX13_unlikePlace 17 = .ok (.iconst 1, 1) := by decide +kernel
theorem dX13_unlikePlace_18 : decode cX13_unlikePlace 18 = .ok (.isub, 1) := by decide +kernel
theorem dX13_unlikePlace_19 : decode cX13_unlikePlace 19 = .ok (.invokevirtual 291, 3) := by decide +kernel
theorem dX13_unlikePlace_22 : decode cX13_unlikePlace 22 = .ok (.istore_n 3, 1) := by decide +kernel
theorem dX13_unlikePlace_23 : decode cX13_unlikePlace 23 = .ok (.aload_n 0, 1) := by decide +kernel
theorem dX13_unlikePlace_24 : decode cX13_unlikePlace 24 = .ok (.getfield 194, 3) := by decide +kernel
theorem dX13_unlikePlace_27 : decode cX13_unlikePlace 27 = .ok (.ifCond .ne 14, 3) := by decide +kernel
theorem dX13_unlikePlace_30 : decode cX13_unlikePlace 30 = .ok (.iload_n 3, 1) := by decide +kernel
theorem dX13_unlikePlace_31 : decode cX13_unlikePlace 31 = .ok (.iload_n 1, 1) := by decide +kernel
theorem dX13_unlikePlace_32 : decode cX13_unlikePlace 32 = .ok (.if_icmp .ne 9, 3) := by decide +kernel
theorem dX13_unlikePlace_35 : decode cX13_unlikePlace 35 = .ok (.aload_n 0, 1) := by decide +kernel
theorem dX13_unlikePlace_36 : decode cX13_unlikePlace 36 = .ok (.iconst 1, 1) := by decide +kernel
theorem dX13_unlikePlace_37 : decode cX13_unlikePlace 37 = .ok (.iload_n 2, 1) := by decide +kernel
theorem dX13_unlikePlace_38 : decode cX13_unlikePlace 38 = .ok (.invokevirtual 233, 3) := by decide +kernel
theorem dX13_unlikePlace_41 : decode cX13_unlikePlace 41 = .ok (.iload_n 3, 1) := by decide +kernel
theorem dX13_unlikePlace_42 : decode cX13_unlikePlace 42 = .ok (.ireturn, 1) := by decide +kernel
theorem dX13_townWord_0 : decode cX13_townWord 0 = .ok (.iload_n 0, 1) := by decide +kernel
theorem dX13_townWord_1 : decode cX13_townWord 1 = .ok (.tableswitch 38 0 2 #[27, 31, 35], 27) := by decide +kernel
theorem dX13_townWord_28 : decode cX13_townWord 28 = .ok (.ldc_w 295, 3) := by decide +kernel
theorem dX13_townWord_31 : decode cX13_townWord 31 = .ok (.areturn, 1) := by decide +kernel
theorem dX13_townWord_32 : decode cX13_townWord 32 = .ok (.ldc_w 297, 3) := by decide +kernel
theorem dX13_townWord_35 : decode cX13_townWord 35 = .ok (.areturn, 1) := by decide +kernel
theorem dX13_townWord_36 : decode cX13_townWord 36 = .ok (.ldc 174, 2) := by decide +kernel
theorem dX13_townWord_38 : decode cX13_townWord 38 = .ok (.areturn, 1) := by decide +kernel
theorem dX13_townWord_39 : decode cX13_townWord 39 = .ok (.ldc 172, 2) := by decide +kernel
theorem dX13_townWord_41 : decode cX13_townWord 41 = .ok (.areturn, 1) := by decide +kernel
theorem dX13_townPart_0 : decode cX13_townPart 0 = .ok (.aload_n 0, 1) := by decide +kernel
theorem dX13_townPart_1 : decode cX13_townPart 1 = .ok (.getfield 67, 3) := by decide +kernel
theorem dX13_townPart_4 : decode cX13_townPart 4 = .ok (.iconst 0, 1) := by decide +kernel
theorem dX13_townPart_5 : decode cX13_townPart 5 = .ok (.iaload, 1) := by decide +kernel
theorem dX13_townPart_6 : decode cX13_townPart 6 = .ok (.iconst 1, 1) := by decide +kernel
theorem dX13_townPart_7 : decode cX13_townPart 7 = .ok (.isub, 1) := by decide +kernel
theorem dX13_townPart_8 : decode cX13_townPart 8 = .ok (.istore_n 2, 1) := by decide +kernel
theorem dX13_townPart_9 : decode cX13_townPart 9 = .ok (.iload_n 1, 1) := by decide +kernel
theorem dX13_townPart_10 : decode cX13_townPart 10 = .ok (.tableswitch 164 0 2 #[26, 57, 107], 26) := by decide +kernel
theorem dX13_townPart_36 : decode cX13_townPart 36 = .ok (.aload_n 0, 1) := by decide +kernel
theorem dX13_townPart_37 : decode cX13_townPart 37 = .ok (.iconst 2, 1) := by decide +kernel
theorem dX13_townPart_38 : decode cX13_townPart 38 = .ok (.bipush 8, 2) := by decide +kernel
theorem dX13_townPart_40 : decode cX13_townPart 40 = .ok (.invokevirtual 291, 3) := by decide +kernel
theorem dX13_townPart_43 : decode cX13_townPart 43 = .ok (.istore_n 3, 1) := by decide +kernel
theorem dX13_townPart_44 : decode cX13_townPart 44 = .ok (.aload_n 0, 1) := by decide +kernel
theorem dX13_townPart_45 : decode cX13_townPart 45 = .ok (.getfield 67, 3) := by decide +kernel
theorem dX13_townPart_48 : decode cX13_townPart 48 = .ok (.iconst 1, 1) := by decide +kernel
theorem dX13_townPart_49 : decode cX13_townPart 49 = .ok (.aload_n 0, 1) := by decide +kernel
theorem dX13_townPart_50 : decode cX13_townPart 50 = .ok (.iconst 1, 1) := by decide +kernel
theorem dX13_townPart_51 : decode cX13_townPart 51 = .ok (.bipush 30, 2) := by decide +kernel
theorem dX13_townPart_53 : decode cX13_townPart 53 = .ok (.invokevirtual 291, 3) := by decide +kernel
theorem dX13_townPart_56 : decode cX13_townPart 56 = .ok (.iastore, 1) := by decide +kernel
theorem dX13_townPart_57 : decode cX13_townPart 57 = .ok (.aload_n 0, 1) := by decide +kernel
theorem dX13_townPart_58 : decode cX13_townPart 58 = .ok (.getfield 67, 3) := by decide +kernel
theorem dX13_townPart_61 : decode cX13_townPart 61 = .ok (.iconst 0, 1) := by decide +kernel
theorem dX13_townPart_62 : decode cX13_townPart 62 = .ok (.iload_n 3, 1) := by decide +kernel
theorem dX13_townPart_63 : decode cX13_townPart 63 = .ok (.iastore, 1) := by decide +kernel
theorem dX13_townPart_64 : decode cX13_townPart 64 = .ok (.goto 168, 3) := by decide +kernel
theorem dX13_townPart_67 : decode cX13_townPart 67 = .ok (.aload_n 0, 1) := by decide +kernel
theorem dX13_townPart_68 : decode cX13_townPart 68 = .ok (.iconst 0, 1) := by decide +kernel
theorem dX13_townPart_69 : decode cX13_townPart 69 = .ok (.iload_n 2, 1) := by decide +kernel
theorem dX13_townPart_70 : decode cX13_townPart 70 = .ok (.invokevirtual 291, 3) := by decide +kernel
theorem dX13_townPart_73 : decode cX13_townPart 73 = .ok (.istore_n 3, 1) := by decide +kernel
theorem dX13_townPart_74 : decode cX13_townPart 74 = .ok (.aload_n 0, 1) := by decide +kernel
theorem dX13_townPart_75 : decode cX13_townPart 75 = .ok (.iload_n 3, 1) := by decide +kernel
theorem dX13_townPart_76 : decode cX13_townPart 76 = .ok (.invokevirtual 299, 3) := by decide +kernel
theorem dX13_townPart_79 : decode cX13_townPart 79 = .ok (.istore 4, 2) := by decide +kernel
theorem dX13_townPart_81 : decode cX13_townPart 81 = .ok (.aload_n 0, 1) := by decide +kernel
theorem dX13_townPart_82 : decode cX13_townPart 82 = .ok (.getfield 194, 3) := by decide +kernel
theorem dX13_townPart_85 : decode cX13_townPart 85 = .ok (.ifCond .ne 147, 3) := by decide +kernel
theorem dX13_townPart_88 : decode cX13_townPart 88 = .ok (.aload_n 0, 1) := by decide +kernel
theorem dX13_townPart_89 : decode cX13_townPart 89 = .ok (.getfield 88, 3) := by decide +kernel
theorem dX13_townPart_92 : decode cX13_townPart 92 = .ok (.iload_n 3, 1) := by decide +kernel
theorem dX13_townPart_93 : decode cX13_townPart 93 = .ok (.dup2, 1) := by decide +kernel
theorem dX13_townPart_94 : decode cX13_townPart 94 = .ok (.iaload, 1) := by decide +kernel
theorem dX13_townPart_95 : decode cX13_townPart 95 = .ok (.iconst 1, 1) := by decide +kernel
theorem dX13_townPart_96 : decode cX13_townPart 96 = .ok (.iload 4, 2) := by decide +kernel
theorem dX13_townPart_98 : decode cX13_townPart 98 = .ok (.ishl, 1) := by decide +kernel
theorem dX13_townPart_99 : decode cX13_townPart 99 = .ok (.ior, 1) := by decide +kernel
theorem dX13_townPart_100 : decode cX13_townPart 100 = .ok (.iastore, 1) := by decide +kernel
theorem dX13_townPart_101 : decode cX13_townPart 101 = .ok (.aload_n 0, 1) := by decide +kernel
theorem dX13_townPart_102 : decode cX13_townPart 102 = .ok (.getfield 88, 3) := by decide +kernel
theorem dX13_townPart_105 : decode cX13_townPart 105 = .ok (.iload 4, 2) := by decide +kernel
theorem dX13_townPart_107 : decode cX13_townPart 107 = .ok (.dup2, 1) := by decide +kernel
theorem dX13_townPart_108 : decode cX13_townPart 108 = .ok (.iaload, 1) := by decide +kernel
theorem dX13_townPart_109 : decode cX13_townPart 109 = .ok (.iconst 1, 1) := by decide +kernel
theorem dX13_townPart_110 : decode cX13_townPart 110 = .ok (.iload_n 3, 1) := by decide +kernel
theorem dX13_townPart_111 : decode cX13_townPart 111 = .ok (.ishl, 1) := by decide +kernel
theorem dX13_townPart_112 : decode cX13_townPart 112 = .ok (.ior, 1) := by decide +kernel
theorem dX13_townPart_113 : decode cX13_townPart 113 = .ok (.iastore, 1) := by decide +kernel
theorem dX13_townPart_114 : decode cX13_townPart 114 = .ok (.goto 118, 3) := by decide +kernel
theorem dX13_townPart_117 : decode cX13_townPart 117 = .ok (.aload_n 0, 1) := by decide +kernel
theorem dX13_townPart_118 : decode cX13_townPart 118 = .ok (.getfield 67, 3) := by decide +kernel
theorem dX13_townPart_121 : decode cX13_townPart 121 = .ok (.iconst 2, 1) := by decide +kernel
theorem dX13_townPart_122 : decode cX13_townPart 122 = .ok (.iaload, 1) := by decide +kernel
theorem dX13_townPart_123 : decode cX13_townPart 123 = .ok (.istore_n 3, 1) := by decide +kernel
theorem dX13_townPart_124 : decode cX13_townPart 124 = .ok (.aload_n 0, 1) := by decide +kernel
theorem dX13_townPart_125 : decode cX13_townPart 125 = .ok (.getfield 70, 3) := by decide +kernel
theorem dX13_townPart_128 : decode cX13_townPart 128 = .ok (.iload_n 3, 1) := by decide +kernel
theorem dX13_townPart_129 : decode cX13_townPart 129 = .ok (.aload_n 0, 1) := by decide +kernel
theorem dX13_townPart_130 : decode cX13_townPart 130 = .ok (.iconst 0, 1) := by decide +kernel
theorem dX13_townPart_131 : decode cX13_townPart 131 = .ok (.iload_n 2, 1) := by decide +kernel
theorem dX13_townPart_132 : decode cX13_townPart 132 = .ok (.invokevirtual 291, 3) := by decide +kernel
theorem dX13_townPart_135 : decode cX13_townPart 135 = .ok (.iastore, 1) := by decide +kernel
theorem dX13_townPart_136 : decode cX13_townPart 136 = .ok (.aload_n 0, 1) := by decide +kernel
theorem dX13_townPart_137 : decode cX13_townPart 137 = .ok (.getfield 73, 3) := by decide +kernel
theorem dX13_townPart_140 : decode cX13_townPart 140 = .ok (.iload_n 3, 1) := by decide +kernel
theorem dX13_townPart_141 : decode cX13_townPart 141 = .ok (.aload_n 0, 1) := by decide +kernel
theorem dX13_townPart_142 : decode cX13_townPart 142 = .ok (.iconst 0, 1) := by decide +kernel
theorem dX13_townPart_143 : decode cX13_townPart 143 = .ok (.bipush 9, 2) := by decide +kernel
theorem dX13_townPart_145 : decode cX13_townPart 145 = .ok (.invokevirtual 291, 3) := by decide +kernel
theorem dX13_townPart_148 : decode cX13_townPart 148 = .ok (.iastore, 1) := by decide +kernel
theorem dX13_townPart_149 : decode cX13_townPart 149 = .ok (.aload_n 0, 1) := by decide +kernel
theorem dX13_townPart_150 : decode cX13_townPart 150 = .ok (.getfield 76, 3) := by decide +kernel
theorem dX13_townPart_153 : decode cX13_townPart 153 = .ok (.iload_n 3, 1) := by decide +kernel
theorem dX13_townPart_154 : decode cX13_townPart 154 = .ok (.aload_n 0, 1) := by decide +kernel
theorem dX13_townPart_155 : decode cX13_townPart 155 = .ok (.iconst 0, 1) := by decide +kernel
theorem dX13_townPart_156 : decode cX13_townPart 156 = .ok (.iconst 1, 1) := by decide +kernel
theorem dX13_townPart_157 : decode cX13_townPart 157 = .ok (.invokevirtual 291, 3) := by decide +kernel
theorem dX13_townPart_160 : decode cX13_townPart 160 = .ok (.iastore, 1) := by decide +kernel
theorem dX13_townPart_161 : decode cX13_townPart 161 = .ok (.aload_n 0, 1) := by decide +kernel
theorem dX13_townPart_162 : decode cX13_townPart 162 = .ok (.getfield 67, 3) := by decide +kernel
theorem dX13_townPart_165 : decode cX13_townPart 165 = .ok (.iconst 2, 1) := by decide +kernel
theorem dX13_townPart_166 : decode cX13_townPart 166 = .ok (.dup2, 1) := by decide +kernel
theorem dX13_townPart_167 : decode cX13_townPart 167 = .ok (.iaload, 1) := by decide +kernel
theorem dX13_townPart_168 : decode cX13_townPart 168 = .ok (.iconst 1, 1) := by decide +kernel
theorem dX13_townPart_169 : decode cX13_townPart 169 = .ok (.iadd, 1) := by decide +kernel
theorem dX13_townPart_170 : decode cX13_townPart 170 = .ok (.iastore, 1) := by decide +kernel
theorem dX13_townPart_171 : decode cX13_townPart 171 = .ok (.goto 61, 3) := by decide +kernel
theorem dX13_townPart_174 : decode cX13_townPart 174 = .ok (.aload_n 0, 1) := by decide +kernel
theorem dX13_townPart_175 : decode cX13_townPart 175 = .ok (.getfield 67, 3) := by decide +kernel
theorem dX13_townPart_178 : decode cX13_townPart 178 = .ok (.iconst 3, 1) := by decide +kernel
theorem dX13_townPart_179 : decode cX13_townPart 179 = .ok (.iaload, 1) := by decide +kernel
theorem dX13_townPart_180 : decode cX13_townPart 180 = .ok (.istore_n 3, 1) := by decide +kernel
theorem dX13_townPart_181 : decode cX13_townPart 181 = .ok (.aload_n 0, 1) := by decide +kernel
theorem dX13_townPart_182 : decode cX13_townPart 182 = .ok (.getfield 79, 3) := by decide +kernel
theorem dX13_townPart_185 : decode cX13_townPart 185 = .ok (.iload_n 3, 1) := by decide +kernel
theorem dX13_townPart_186 : decode cX13_townPart 186 = .ok (.aload_n 0, 1) := by decide +kernel
theorem dX13_townPart_187 : decode cX13_townPart 187 = .ok (.iconst 0, 1) := by decide +kernel
theorem dX13_townPart_188 : decode cX13_townPart 188 = .ok (.iload_n 2, 1) := by decide +kernel
theorem dX13_townPart_189 : decode cX13_townPart 189 = .ok (.invokevirtual 291, 3) := by decide +kernel
theorem dX13_townPart_192 : decode cX13_townPart 192 = .ok (.iastore, 1) := by decide +kernel
theorem dX13_townPart_193 : decode cX13_townPart 193 = .ok (.aload_n 0, 1) := by decide +kernel
theorem dX13_townPart_194 : decode cX13_townPart 194 = .ok (.getfield 82, 3) := by decide +kernel
theorem dX13_townPart_197 : decode cX13_townPart 197 = .ok (.iload_n 3, 1) := by decide +kernel
theorem dX13_townPart_198 : decode cX13_townPart 198 = .ok (.aload_n 0, 1) := by decide +kernel
theorem dX13_townPart_199 : decode cX13_townPart 199 = .ok (.aload_n 0, 1) := by decide +kernel
theorem dX13_townPart_200 : decode cX13_townPart 200 = .ok (.getfield 79, 3) := by decide +kernel
theorem dX13_townPart_203 : decode cX13_townPart 203 = .ok (.iload_n 3, 1) := by decide +kernel
theorem dX13_townPart_204 : decode cX13_townPart 204 = .ok (.iaload, 1) := by decide +kernel
theorem dX13_townPart_205 : decode cX13_townPart 205 = .ok (.invokevirtual 299, 3) := by decide +kernel
theorem dX13_townPart_208 : decode cX13_townPart 208 = .ok (.iastore, 1) := by decide +kernel
theorem dX13_townPart_209 : decode cX13_townPart 209 = .ok (.aload_n 0, 1) := by decide +kernel
theorem dX13_townPart_210 : decode cX13_townPart 210 = .ok (.getfield 85, 3) := by decide +kernel
theorem dX13_townPart_213 : decode cX13_townPart 213 = .ok (.iload_n 3, 1) := by decide +kernel
theorem dX13_townPart_214 : decode cX13_townPart 214 = .ok (.aload_n 0, 1) := by decide +kernel
theorem dX13_townPart_215 : decode cX13_townPart 215 = .ok (.iconst 1, 1) := by decide +kernel
theorem dX13_townPart_216 : decode cX13_townPart 216 = .ok (.bipush 20, 2) := by decide +kernel
theorem dX13_townPart_218 : decode cX13_townPart 218 = .ok (.invokevirtual 291, 3) := by decide +kernel
theorem dX13_townPart_221 : decode cX13_townPart 221 = .ok (.iastore, 1) := by decide +kernel
theorem dX13_townPart_222 : decode cX13_townPart 222 = .ok (.aload_n 0, 1) := by decide +kernel
theorem dX13_townPart_223 : decode cX13_townPart 223 = .ok (.getfield 67, 3) := by decide +kernel
theorem dX13_townPart_226 : decode cX13_townPart 226 = .ok (.iconst 3, 1) := by decide +kernel
theorem dX13_townPart_227 : decode cX13_townPart 227 = .ok (.dup2, 1) := by decide +kernel
theorem dX13_townPart_228 : decode cX13_townPart 228 = .ok (.iaload, 1) := by decide +kernel
theorem dX13_townPart_229 : decode cX13_townPart 229 = .ok (.iconst 1, 1) := by decide +kernel
theorem dX13_townPart_230 : decode cX13_townPart 230 = .ok (.iadd, 1) := by decide +kernel
theorem dX13_townPart_231 : decode cX13_townPart 231 = .ok (.iastore, 1) := by decide +kernel
theorem dX13_townPart_232 : decode cX13_townPart 232 = .ok (.return_, 1) := by decide +kernel
theorem dX13_isFull_0 : decode cX13_isFull 0 = .ok (.iload_n 2, 1) := by decide +kernel
theorem dX13_isFull_1 : decode cX13_isFull 1 = .ok (.bipush 40, 2) := by decide +kernel
theorem dX13_isFull_3 : decode cX13_isFull 3 = .ok (.if_icmp .eq 24, 3) := by decide +kernel
theorem dX13_isFull_6 : decode cX13_isFull 6 = .ok (.iload_n 1, 1) := by decide +kernel
theorem dX13_isFull_7 : decode cX13_isFull 7 = .ok (.ifCond .ne 7, 3) := by decide +kernel
theorem dX13_isFull_10 : decode cX13_isFull 10 = .ok (.iconst 1, 1) := by decide +kernel
theorem dX13_isFull_11 : decode cX13_isFull 11 = .ok (.goto 4, 3) := by decide +kernel
theorem dX13_isFull_14 : decode cX13_isFull 14 = .ok (.iconst 0, 1) := by decide +kernel
theorem dX13_isFull_15 : decode cX13_isFull 15 = .ok (.iload_n 2, 1) := by decide +kernel
theorem dX13_isFull_16 : decode cX13_isFull 16 = .ok (.ifCond .ne 7, 3) := by decide +kernel
theorem dX13_isFull_19 : decode cX13_isFull 19 = .ok (.iconst 1, 1) := by decide +kernel
theorem dX13_isFull_20 : decode cX13_isFull 20 = .ok (.goto 4, 3) := by decide +kernel
theorem dX13_isFull_23 : decode cX13_isFull 23 = .ok (.iconst 0, 1) := by decide +kernel
theorem dX13_isFull_24 : decode cX13_isFull 24 = .ok (.if_icmp .eq 5, 3) := by decide +kernel
theorem dX13_isFull_27 : decode cX13_isFull 27 = .ok (.iconst 1, 1) := by decide +kernel
theorem dX13_isFull_28 : decode cX13_isFull 28 = .ok (.ireturn, 1) := by decide +kernel
theorem dX13_isFull_29 : decode cX13_isFull 29 = .ok (.iload_n 1, 1) := by decide +kernel
theorem dX13_isFull_30 : decode cX13_isFull 30 = .ok (.iconst 2, 1) := by decide +kernel
theorem dX13_isFull_31 : decode cX13_isFull 31 = .ok (.if_icmp .ne 14, 3) := by decide +kernel
theorem dX13_isFull_34 : decode cX13_isFull 34 = .ok (.aload_n 0, 1) := by decide +kernel
theorem dX13_isFull_35 : decode cX13_isFull 35 = .ok (.getfield 67, 3) := by decide +kernel
theorem dX13_isFull_38 : decode cX13_isFull 38 = .ok (.iconst 2, 1) := by decide +kernel
theorem dX13_isFull_39 : decode cX13_isFull 39 = .ok (.iaload, 1) := by decide +kernel
theorem dX13_isFull_40 : decode cX13_isFull 40 = .ok (.bipush 6, 2) := by decide +kernel
theorem dX13_isFull_42 : decode cX13_isFull 42 = .ok (.if_icmp .eq 18, 3) := by decide +kernel
theorem dX13_isFull_45 : decode cX13_isFull 45 = .ok (.iload_n 1, 1) := by decide +kernel
theorem dX13_isFull_46 : decode cX13_isFull 46 = .ok (.iconst 3, 1) := by decide +kernel
theorem dX13_isFull_47 : decode cX13_isFull 47 = .ok (.if_icmp .ne 17, 3) := by decide +kernel
theorem dX13_isFull_50 : decode cX13_isFull 50 = .ok (.aload_n 0, 1) := by decide +kernel
theorem dX13_isFull_51 : decode cX13_isFull 51 = .ok (.getfield 67, 3) := by decide +kernel
theorem dX13_isFull_54 : decode cX13_isFull 54 = .ok (.iconst 3, 1) := by decide +kernel
theorem dX13_isFull_55 : decode cX13_isFull 55 = .ok (.iaload, 1) := by decide +kernel
theorem dX13_isFull_56 : decode cX13_isFull 56 = .ok (.iconst 5, 1) := by decide +kernel
theorem dX13_isFull_57 : decode cX13_isFull 57 = .ok (.if_icmp .ne 7, 3) := by decide +kernel
theorem dX13_isFull_60 : decode cX13_isFull 60 = .ok (.iconst 1, 1) := by decide +kernel
theorem dX13_isFull_61 : decode cX13_isFull 61 = .ok (.goto 4, 3) := by decide +kernel
theorem dX13_isFull_64 : decode cX13_isFull 64 = .ok (.iconst 0, 1) := by decide +kernel
theorem dX13_isFull_65 : decode cX13_isFull 65 = .ok (.ireturn, 1) := by decide +kernel
theorem dX13_townClause_0 : decode cX13_townClause 0 = .ok (.aload_n 0, 1) := by decide +kernel
theorem dX13_townClause_1 : decode cX13_townClause 1 = .ok (.invokevirtual 217, 3) := by decide +kernel
theorem dX13_townClause_4 : decode cX13_townClause 4 = .ok (.aload_n 0, 1) := by decide +kernel
theorem dX13_townClause_5 : decode cX13_townClause 5 = .ok (.getfield 197, 3) := by decide +kernel
theorem dX13_townClause_8 : decode cX13_townClause 8 = .ok (.istore_n 2, 1) := by decide +kernel
theorem dX13_townClause_9 : decode cX13_townClause 9 = .ok (.iconst 0, 1) := by decide +kernel
theorem dX13_townClause_10 : decode cX13_townClause 10 = .ok (.istore_n 3, 1) := by decide +kernel
theorem dX13_townClause_11 : decode cX13_townClause 11 = .ok (.iload_n 3, 1) := by decide +kernel
theorem dX13_townClause_12 : decode cX13_townClause 12 = .ok (.iconst 4, 1) := by decide +kernel
theorem dX13_townClause_13 : decode cX13_townClause 13 = .ok (.if_icmp .ge 20, 3) := by decide +kernel
theorem dX13_townClause_16 : decode cX13_townClause 16 = .ok (.aload_n 0, 1) := by decide +kernel
theorem dX13_townClause_17 : decode cX13_townClause 17 = .ok (.iload_n 3, 1) := by decide +kernel
theorem dX13_townClause_18 : decode cX13_townClause 18 = .ok (.invokestatic 302, 3) := by decide +kernel
theorem dX13_townClause_21 : decode cX13_townClause 21 = .ok (.invokevirtual 220, 3) := by decide +kernel
theorem dX13_townClause_24 : decode cX13_townClause 24 = .ok (.ifCond .ne 9, 3) := by decide +kernel
theorem dX13_townClause_27 : decode cX13_townClause 27 = .ok (.iinc 3 1, 3) := by decide +kernel
theorem dX13_townClause_30 : decode cX13_townClause 30 = .ok (.goto (-19), 3) := by decide +kernel
theorem dX13_townClause_33 : decode cX13_townClause 33 = .ok (.iload_n 3, 1) := by decide +kernel
theorem dX13_townClause_34 : decode cX13_townClause 34 = .ok (.iconst 4, 1) := by decide +kernel
theorem dX13_townClause_35 : decode cX13_townClause 35 = .ok (.if_icmp .ne 10, 3) := by decide +kernel
theorem dX13_townClause_38 : decode cX13_townClause 38 = .ok (.aload_n 0, 1) := by decide +kernel
theorem dX13_townClause_39 : decode cX13_townClause 39 = .ok (.iconst 0, 1) := by decide +kernel
theorem dX13_townClause_40 : decode cX13_townClause 40 = .ok (.iload_n 2, 1) := by decide +kernel
theorem dX13_townClause_41 : decode cX13_townClause 41 = .ok (.invokevirtual 233, 3) := by decide +kernel
theorem dX13_townClause_44 : decode cX13_townClause 44 = .ok (.return_, 1) := by decide +kernel
theorem dX13_townClause_45 : decode cX13_townClause 45 = .ok (.aload_n 0, 1) := by decide +kernel
theorem dX13_townClause_46 : decode cX13_townClause 46 = .ok (.iload_n 3, 1) := by decide +kernel
theorem dX13_townClause_47 : decode cX13_townClause 47 = .ok (.iload_n 1, 1) := by decide +kernel
theorem dX13_townClause_48 : decode cX13_townClause 48 = .ok (.invokevirtual 305, 3) := by decide +kernel
theorem dX13_townClause_51 : decode cX13_townClause 51 = .ok (.ifCond .eq 10, 3) := by decide +kernel
theorem dX13_townClause_54 : decode cX13_townClause 54 = .ok (.aload_n 0, 1) := by decide +kernel
theorem dX13_townClause_55 : decode cX13_townClause 55 = .ok (.iconst 4, 1) := by decide +kernel
theorem dX13_townClause_56 : decode cX13_townClause 56 = .ok (.iload_n 2, 1) := by decide +kernel
theorem dX13_townClause_57 : decode cX13_townClause 57 = .ok (.invokevirtual 233, 3) := by decide +kernel
theorem dX13_townClause_60 : decode cX13_townClause 60 = .ok (.return_, 1) := by decide +kernel
theorem dX13_townClause_61 : decode cX13_townClause 61 = .ok (.aload_n 0, 1) := by decide +kernel
theorem dX13_townClause_62 : decode cX13_townClause 62 = .ok (.dup, 1) := by decide +kernel
theorem dX13_townClause_63 : decode cX13_townClause 63 = .ok (.getfield 197, 3) := by decide +kernel
theorem dX13_townClause_66 : decode cX13_townClause 66 = .ok (.iload_n 3, 1) := by decide +kernel
theorem dX13_townClause_67 : decode cX13_townClause 67 = .ok (.invokestatic 302, 3) := by decide +kernel
theorem dX13_townClause_70 : decode cX13_townClause 70 = .ok (.invokevirtual 208, 3) := by decide +kernel
theorem dX13_townClause_73 : decode cX13_townClause 73 = .ok (.iadd, 1) := by decide +kernel
theorem dX13_townClause_74 : decode cX13_townClause 74 = .ok (.putfield 197, 3) := by decide +kernel
theorem dX13_townClause_77 : decode cX13_townClause 77 = .ok (.aload_n 0, 1) := by decide +kernel
theorem dX13_townClause_78 : decode cX13_townClause 78 = .ok (.iload_n 3, 1) := by decide +kernel
theorem dX13_townClause_79 : decode cX13_townClause 79 = .ok (.invokevirtual 309, 3) := by decide +kernel
theorem dX13_townClause_82 : decode cX13_townClause 82 = .ok (.return_, 1) := by decide +kernel
theorem dX13_copies_0 : decode cX13_copies 0 = .ok (.iconst 0, 1) := by decide +kernel
theorem dX13_copies_1 : decode cX13_copies 1 = .ok (.istore_n 2, 1) := by decide +kernel
theorem dX13_copies_2 : decode cX13_copies 2 = .ok (.iload_n 2, 1) := by decide +kernel
theorem dX13_copies_3 : decode cX13_copies 3 = .ok (.aload_n 0, 1) := by decide +kernel
theorem dX13_copies_4 : decode cX13_copies 4 = .ok (.arraylength, 1) := by decide +kernel
theorem dX13_copies_5 : decode cX13_copies 5 = .ok (.if_icmp .ge 15, 3) := by decide +kernel
theorem dX13_copies_8 : decode cX13_copies 8 = .ok (.aload_n 1, 1) := by decide +kernel
theorem dX13_copies_9 : decode cX13_copies 9 = .ok (.iload_n 2, 1) := by decide +kernel
theorem dX13_copies_10 : decode cX13_copies 10 = .ok (.aload_n 0, 1) := by decide +kernel
theorem dX13_copies_11 : decode cX13_copies 11 = .ok (.iload_n 2, 1) := by decide +kernel
theorem dX13_copies_12 : decode cX13_copies 12 = .ok (.iaload, 1) := by decide +kernel
theorem dX13_copies_13 : decode cX13_copies 13 = .ok (.iastore, 1) := by decide +kernel
theorem dX13_copies_14 : decode cX13_copies 14 = .ok (.iinc 2 1, 3) := by decide +kernel
theorem dX13_copies_17 : decode cX13_copies 17 = .ok (.goto (-15), 3) := by decide +kernel
theorem dX13_copies_20 : decode cX13_copies 20 = .ok (.return_, 1) := by decide +kernel
theorem dX13_goesOn_0 : decode cX13_goesOn 0 = .ok (.aload_n 0, 1) := by decide +kernel
theorem dX13_goesOn_1 : decode cX13_goesOn 1 = .ok (.invokevirtual 217, 3) := by decide +kernel
theorem dX13_goesOn_4 : decode cX13_goesOn 4 = .ok (.aload_n 0, 1) := by decide +kernel
theorem dX13_goesOn_5 : decode cX13_goesOn 5 = .ok (.getfield 194, 3) := by decide +kernel
theorem dX13_goesOn_8 : decode cX13_goesOn 8 = .ok (.ifCond .ne 32, 3) := by decide +kernel
theorem dX13_goesOn_11 : decode cX13_goesOn 11 = .ok (.aload_n 0, 1) := by decide +kernel
theorem dX13_goesOn_12 : decode cX13_goesOn 12 = .ok (.getfield 197, 3) := by decide +kernel
theorem dX13_goesOn_15 : decode cX13_goesOn 15 = .ok (.aload_n 0, 1) := by decide +kernel
theorem dX13_goesOn_16 : decode cX13_goesOn 16 = .ok (.getfield 165, 3) := by decide +kernel
theorem dX13_goesOn_19 : decode cX13_goesOn 19 = .ok (.if_icmp .ge 21, 3) := by decide +kernel
theorem dX13_goesOn_22 : decode cX13_goesOn 22 = .ok (.aload_n 0, 1) := by decide +kernel
theorem dX13_goesOn_23 : decode cX13_goesOn 23 = .ok (.invokevirtual 200, 3) := by decide +kernel
theorem dX13_goesOn_26 : decode cX13_goesOn 26 = .ok (.bipush 59, 2) := by decide +kernel
theorem dX13_goesOn_28 : decode cX13_goesOn 28 = .ok (.if_icmp .eq 12, 3) := by decide +kernel
theorem dX13_goesOn_31 : decode cX13_goesOn 31 = .ok (.aload_n 0, 1) := by decide +kernel
theorem dX13_goesOn_32 : decode cX13_goesOn 32 = .ok (.iconst 0, 1) := by decide +kernel
theorem dX13_goesOn_33 : decode cX13_goesOn 33 = .ok (.aload_n 0, 1) := by decide +kernel
theorem dX13_goesOn_34 : decode cX13_goesOn 34 = .ok (.getfield 197, 3) := by decide +kernel
theorem dX13_goesOn_37 : decode cX13_goesOn 37 = .ok (.invokevirtual 233, 3) := by decide +kernel
theorem dX13_goesOn_40 : decode cX13_goesOn 40 = .ok (.aload_n 0, 1) := by decide +kernel
theorem dX13_goesOn_41 : decode cX13_goesOn 41 = .ok (.getfield 194, 3) := by decide +kernel
theorem dX13_goesOn_44 : decode cX13_goesOn 44 = .ok (.ifCond .ne 18, 3) := by decide +kernel
theorem dX13_goesOn_47 : decode cX13_goesOn 47 = .ok (.aload_n 0, 1) := by decide +kernel
theorem dX13_goesOn_48 : decode cX13_goesOn 48 = .ok (.getfield 197, 3) := by decide +kernel
theorem dX13_goesOn_51 : decode cX13_goesOn 51 = .ok (.aload_n 0, 1) := by decide +kernel
theorem dX13_goesOn_52 : decode cX13_goesOn 52 = .ok (.getfield 165, 3) := by decide +kernel
theorem dX13_goesOn_55 : decode cX13_goesOn 55 = .ok (.if_icmp .ge 7, 3) := by decide +kernel
theorem dX13_goesOn_58 : decode cX13_goesOn 58 = .ok (.iconst 1, 1) := by decide +kernel
theorem dX13_goesOn_59 : decode cX13_goesOn 59 = .ok (.goto 4, 3) := by decide +kernel
theorem dX13_goesOn_62 : decode cX13_goesOn 62 = .ok (.iconst 0, 1) := by decide +kernel
theorem dX13_goesOn_63 : decode cX13_goesOn 63 = .ok (.istore_n 1, 1) := by decide +kernel
theorem dX13_goesOn_64 : decode cX13_goesOn 64 = .ok (.aload_n 0, 1) := by decide +kernel
theorem dX13_goesOn_65 : decode cX13_goesOn 65 = .ok (.dup, 1) := by decide +kernel
theorem dX13_goesOn_66 : decode cX13_goesOn 66 = .ok (.getfield 197, 3) := by decide +kernel
theorem dX13_goesOn_69 : decode cX13_goesOn 69 = .ok (.iconst 1, 1) := by decide +kernel
theorem dX13_goesOn_70 : decode cX13_goesOn 70 = .ok (.iadd, 1) := by decide +kernel
theorem dX13_goesOn_71 : decode cX13_goesOn 71 = .ok (.putfield 197, 3) := by decide +kernel
theorem dX13_goesOn_74 : decode cX13_goesOn 74 = .ok (.iload_n 1, 1) := by decide +kernel
theorem dX13_goesOn_75 : decode cX13_goesOn 75 = .ok (.ireturn, 1) := by decide +kernel
theorem dX13_starts_0 : decode cX13_starts 0 = .ok (.aload_n 0, 1) := by decide +kernel
theorem dX13_starts_1 : decode cX13_starts 1 = .ok (.iconst 0, 1) := by decide +kernel
theorem dX13_starts_2 : decode cX13_starts 2 = .ok (.putfield 197, 3) := by decide +kernel
theorem dX13_starts_5 : decode cX13_starts 5 = .ok (.aload_n 0, 1) := by decide +kernel
theorem dX13_starts_6 : decode cX13_starts 6 = .ok (.iconst 0, 1) := by decide +kernel
theorem dX13_starts_7 : decode cX13_starts 7 = .ok (.putfield 194, 3) := by decide +kernel
theorem dX13_starts_10 : decode cX13_starts 10 = .ok (.aload_n 0, 1) := by decide +kernel
theorem dX13_starts_11 : decode cX13_starts 11 = .ok (.iconst 0, 1) := by decide +kernel
theorem dX13_starts_12 : decode cX13_starts 12 = .ok (.putfield 227, 3) := by decide +kernel
theorem dX13_starts_15 : decode cX13_starts 15 = .ok (.aload_n 0, 1) := by decide +kernel
theorem dX13_starts_16 : decode cX13_starts 16 = .ok (.iconst 0, 1) := by decide +kernel
theorem dX13_starts_17 : decode cX13_starts 17 = .ok (.putfield 267, 3) := by decide +kernel
theorem dX13_starts_20 : decode cX13_starts 20 = .ok (.aload_n 0, 1) := by decide +kernel
theorem dX13_starts_21 : decode cX13_starts 21 = .ok (.iconst 0, 1) := by decide +kernel
theorem dX13_starts_22 : decode cX13_starts 22 = .ok (.putfield 230, 3) := by decide +kernel
theorem dX13_starts_25 : decode cX13_starts 25 = .ok (.return_, 1) := by decide +kernel
theorem dX13_readsAll_0 : decode cX13_readsAll 0 = .ok (.aload_n 0, 1) := by decide +kernel
theorem dX13_readsAll_1 : decode cX13_readsAll 1 = .ok (.invokevirtual 312, 3) := by decide +kernel
theorem dX13_readsAll_4 : decode cX13_readsAll 4 = .ok (.iconst 0, 1) := by decide +kernel
theorem dX13_readsAll_5 : decode cX13_readsAll 5 = .ok (.istore_n 1, 1) := by decide +kernel
theorem dX13_readsAll_6 : decode cX13_readsAll 6 = .ok (.iload_n 1, 1) := by decide +kernel
theorem dX13_readsAll_7 : decode cX13_readsAll 7 = .ok (.iconst 4, 1) := by decide +kernel
theorem dX13_readsAll_8 : decode cX13_readsAll 8 = .ok (.if_icmp .ge 16, 3) := by decide +kernel
theorem dX13_readsAll_11 : decode cX13_readsAll 11 = .ok (.aload_n 0, 1) := by decide +kernel
theorem dX13_readsAll_12 : decode cX13_readsAll 12 = .ok (.getfield 67, 3) := by decide +kernel
theorem dX13_readsAll_15 : decode cX13_readsAll 15 = .ok (.iload_n 1, 1) := by decide +kernel
theorem dX13_readsAll_16 : decode cX13_readsAll 16 = .ok (.iconst 0, 1) := by decide +kernel
theorem dX13_readsAll_17 : decode cX13_readsAll 17 = .ok (.iastore, 1) := by decide +kernel
theorem dX13_readsAll_18 : decode cX13_readsAll 18 = .ok (.iinc 1 1, 3) := by decide +kernel
theorem dX13_readsAll_21 : decode cX13_readsAll 21 = .ok (.goto (-15), 3) := by decide +kernel
theorem dX13_readsAll_24 : decode cX13_readsAll 24 = .ok (.iconst 0, 1) := by decide +kernel
theorem dX13_readsAll_25 : decode cX13_readsAll 25 = .ok (.istore_n 1, 1) := by decide +kernel
theorem dX13_readsAll_26 : decode cX13_readsAll 26 = .ok (.iload_n 1, 1) := by decide +kernel
theorem dX13_readsAll_27 : decode cX13_readsAll 27 = .ok (.bipush 8, 2) := by decide +kernel
theorem dX13_readsAll_29 : decode cX13_readsAll 29 = .ok (.if_icmp .ge 16, 3) := by decide +kernel
theorem dX13_readsAll_32 : decode cX13_readsAll 32 = .ok (.aload_n 0, 1) := by decide +kernel
theorem dX13_readsAll_33 : decode cX13_readsAll 33 = .ok (.getfield 88, 3) := by decide +kernel
theorem dX13_readsAll_36 : decode cX13_readsAll 36 = .ok (.iload_n 1, 1) := by decide +kernel
theorem dX13_readsAll_37 : decode cX13_readsAll 37 = .ok (.iconst 0, 1) := by decide +kernel
theorem dX13_readsAll_38 : decode cX13_readsAll 38 = .ok (.iastore, 1) := by decide +kernel
theorem dX13_readsAll_39 : decode cX13_readsAll 39 = .ok (.iinc 1 1, 3) := by decide +kernel
theorem dX13_readsAll_42 : decode cX13_readsAll 42 = .ok (.goto (-16), 3) := by decide +kernel
theorem dX13_readsAll_45 : decode cX13_readsAll 45 = .ok (.iconst 0, 1) := by decide +kernel
theorem dX13_readsAll_46 : decode cX13_readsAll 46 = .ok (.istore_n 1, 1) := by decide +kernel
theorem dX13_readsAll_47 : decode cX13_readsAll 47 = .ok (.iconst 1, 1) := by decide +kernel
theorem dX13_readsAll_48 : decode cX13_readsAll 48 = .ok (.istore_n 2, 1) := by decide +kernel
theorem dX13_readsAll_49 : decode cX13_readsAll 49 = .ok (.iload_n 2, 1) := by decide +kernel
theorem dX13_readsAll_50 : decode cX13_readsAll 50 = .ok (.ifCond .eq 19, 3) := by decide +kernel
theorem dX13_readsAll_53 : decode cX13_readsAll 53 = .ok (.aload_n 0, 1) := by decide +kernel
theorem dX13_readsAll_54 : decode cX13_readsAll 54 = .ok (.iload_n 1, 1) := by decide +kernel
theorem dX13_readsAll_55 : decode cX13_readsAll 55 = .ok (.invokevirtual 315, 3) := by decide +kernel
theorem dX13_readsAll_58 : decode cX13_readsAll 58 = .ok (.iinc 1 1, 3) := by decide +kernel
theorem dX13_readsAll_61 : decode cX13_readsAll 61 = .ok (.aload_n 0, 1) := by decide +kernel
theorem dX13_readsAll_62 : decode cX13_readsAll 62 = .ok (.invokevirtual 318, 3) := by decide +kernel
theorem dX13_readsAll_65 : decode cX13_readsAll 65 = .ok (.istore_n 2, 1) := by decide +kernel
theorem dX13_readsAll_66 : decode cX13_readsAll 66 = .ok (.goto (-17), 3) := by decide +kernel
theorem dX13_readsAll_69 : decode cX13_readsAll 69 = .ok (.aload_n 0, 1) := by decide +kernel
theorem dX13_readsAll_70 : decode cX13_readsAll 70 = .ok (.iconst 0, 1) := by decide +kernel
theorem dX13_readsAll_71 : decode cX13_readsAll 71 = .ok (.putfield 165, 3) := by decide +kernel
theorem dX13_readsAll_74 : decode cX13_readsAll 74 = .ok (.return_, 1) := by decide +kernel
theorem dX13_begins_0 : decode cX13_begins 0 = .ok (.aload_n 0, 1) := by decide +kernel
theorem dX13_begins_1 : decode cX13_begins 1 = .ok (.getfield 58, 3) := by decide +kernel
theorem dX13_begins_4 : decode cX13_begins 4 = .ok (.aload_n 0, 1) := by decide +kernel
theorem dX13_begins_5 : decode cX13_begins 5 = .ok (.getfield 13, 3) := by decide +kernel
theorem dX13_begins_8 : decode cX13_begins 8 = .ok (.invokestatic 321, 3) := by decide +kernel
theorem dX13_begins_11 : decode cX13_begins 11 = .ok (.aload_n 0, 1) := by decide +kernel
theorem dX13_begins_12 : decode cX13_begins 12 = .ok (.getfield 61, 3) := by decide +kernel
theorem dX13_begins_15 : decode cX13_begins 15 = .ok (.aload_n 0, 1) := by decide +kernel
theorem dX13_begins_16 : decode cX13_begins 16 = .ok (.getfield 16, 3) := by decide +kernel
theorem dX13_begins_19 : decode cX13_begins 19 = .ok (.invokestatic 321, 3) := by decide +kernel
theorem dX13_begins_22 : decode cX13_begins 22 = .ok (.aload_n 0, 1) := by decide +kernel
theorem dX13_begins_23 : decode cX13_begins 23 = .ok (.getfield 64, 3) := by decide +kernel
theorem dX13_begins_26 : decode cX13_begins 26 = .ok (.aload_n 0, 1) := by decide +kernel
theorem dX13_begins_27 : decode cX13_begins 27 = .ok (.getfield 34, 3) := by decide +kernel
theorem dX13_begins_30 : decode cX13_begins 30 = .ok (.invokestatic 321, 3) := by decide +kernel
theorem dX13_begins_33 : decode cX13_begins 33 = .ok (.aload_n 0, 1) := by decide +kernel
theorem dX13_begins_34 : decode cX13_begins 34 = .ok (.getfield 9, 3) := by decide +kernel
theorem dX13_begins_37 : decode cX13_begins 37 = .ok (.iconst 4, 1) := by decide +kernel
theorem dX13_begins_38 : decode cX13_begins 38 = .ok (.iconst 0, 1) := by decide +kernel
theorem dX13_begins_39 : decode cX13_begins 39 = .ok (.iastore, 1) := by decide +kernel
theorem dX13_begins_40 : decode cX13_begins 40 = .ok (.aload_n 0, 1) := by decide +kernel
theorem dX13_begins_41 : decode cX13_begins 41 = .ok (.getfield 9, 3) := by decide +kernel
theorem dX13_begins_44 : decode cX13_begins 44 = .ok (.iconst 5, 1) := by decide +kernel
theorem dX13_begins_45 : decode cX13_begins 45 = .ok (.iconst (-1), 1) := by decide +kernel
theorem dX13_begins_46 : decode cX13_begins 46 = .ok (.iastore, 1) := by decide +kernel
theorem dX13_begins_47 : decode cX13_begins 47 = .ok (.aload_n 0, 1) := by decide +kernel
theorem dX13_begins_48 : decode cX13_begins 48 = .ok (.getfield 9, 3) := by decide +kernel
theorem dX13_begins_51 : decode cX13_begins 51 = .ok (.bipush 6, 2) := by decide +kernel
theorem dX13_begins_53 : decode cX13_begins 53 = .ok (.iconst 0, 1) := by decide +kernel
theorem dX13_begins_54 : decode cX13_begins 54 = .ok (.iastore, 1) := by decide +kernel
theorem dX13_begins_55 : decode cX13_begins 55 = .ok (.iconst 0, 1) := by decide +kernel
theorem dX13_begins_56 : decode cX13_begins 56 = .ok (.istore_n 1, 1) := by decide +kernel
theorem dX13_begins_57 : decode cX13_begins 57 = .ok (.iload_n 1, 1) := by decide +kernel
theorem dX13_begins_58 : decode cX13_begins 58 = .ok (.bipush 6, 2) := by decide +kernel
theorem dX13_begins_60 : decode cX13_begins 60 = .ok (.if_icmp .ge 30, 3) := by decide +kernel
theorem dX13_begins_63 : decode cX13_begins 63 = .ok (.aload_n 0, 1) := by decide +kernel
theorem dX13_begins_64 : decode cX13_begins 64 = .ok (.getfield 19, 3) := by decide +kernel
theorem dX13_begins_67 : decode cX13_begins 67 = .ok (.iload_n 1, 1) := by decide +kernel
theorem dX13_begins_68 : decode cX13_begins 68 = .ok (.iconst 0, 1) := by decide +kernel
theorem dX13_begins_69 : decode cX13_begins 69 = .ok (.iastore, 1) := by decide +kernel
theorem dX13_begins_70 : decode cX13_begins 70 = .ok (.aload_n 0, 1) := by decide +kernel
theorem dX13_begins_71 : decode cX13_begins 71 = .ok (.getfield 22, 3) := by decide +kernel
theorem dX13_begins_74 : decode cX13_begins 74 = .ok (.iload_n 1, 1) := by decide +kernel
theorem dX13_begins_75 : decode cX13_begins 75 = .ok (.iconst 0, 1) := by decide +kernel
theorem dX13_begins_76 : decode cX13_begins 76 = .ok (.iastore, 1) := by decide +kernel
theorem dX13_begins_77 : decode cX13_begins 77 = .ok (.aload_n 0, 1) := by decide +kernel
theorem dX13_begins_78 : decode cX13_begins 78 = .ok (.getfield 25, 3) := by decide +kernel
theorem dX13_begins_81 : decode cX13_begins 81 = .ok (.iload_n 1, 1) := by decide +kernel
theorem dX13_begins_82 : decode cX13_begins 82 = .ok (.iconst 0, 1) := by decide +kernel
theorem dX13_begins_83 : decode cX13_begins 83 = .ok (.iastore, 1) := by decide +kernel
theorem dX13_begins_84 : decode cX13_begins 84 = .ok (.iinc 1 1, 3) := by decide +kernel
theorem dX13_begins_87 : decode cX13_begins 87 = .ok (.goto (-30), 3) := by decide +kernel
theorem dX13_begins_90 : decode cX13_begins 90 = .ok (.iconst 0, 1) := by decide +kernel
theorem dX13_begins_91 : decode cX13_begins 91 = .ok (.istore_n 1, 1) := by decide +kernel
theorem dX13_begins_92 : decode cX13_begins 92 = .ok (.iload_n 1, 1) := by decide +kernel
theorem dX13_begins_93 : decode cX13_begins 93 = .ok (.iconst 5, 1) := by decide +kernel
theorem dX13_begins_94 : decode cX13_begins 94 = .ok (.if_icmp .ge 16, 3) := by decide +kernel
theorem dX13_begins_97 : decode cX13_begins 97 = .ok (.aload_n 0, 1) := by decide +kernel
theorem dX13_begins_98 : decode cX13_begins 98 = .ok (.getfield 28, 3) := by decide +kernel
theorem dX13_begins_101 : decode cX13_begins 101 = .ok (.iload_n 1, 1) := by decide +kernel
theorem dX13_begins_102 : decode cX13_begins 102 = .ok (.iconst (-1), 1) := by decide +kernel
theorem dX13_begins_103 : decode cX13_begins 103 = .ok (.iastore, 1) := by decide +kernel
theorem dX13_begins_104 : decode cX13_begins 104 = .ok (.iinc 1 1, 3) := by decide +kernel
theorem dX13_begins_107 : decode cX13_begins 107 = .ok (.goto (-15), 3) := by decide +kernel
theorem dX13_begins_110 : decode cX13_begins 110 = .ok (.iconst 0, 1) := by decide +kernel
theorem dX13_begins_111 : decode cX13_begins 111 = .ok (.istore_n 1, 1) := by decide +kernel
theorem dX13_begins_112 : decode cX13_begins 112 = .ok (.iload_n 1, 1) := by decide +kernel
theorem dX13_begins_113 : decode cX13_begins 113 = .ok (.aload_n 0, 1) := by decide +kernel
theorem dX13_begins_114 : decode cX13_begins 114 = .ok (.getfield 31, 3) := by decide +kernel
theorem dX13_begins_117 : decode cX13_begins 117 = .ok (.arraylength, 1) := by decide +kernel
theorem dX13_begins_118 : decode cX13_begins 118 = .ok (.if_icmp .ge 16, 3) := by decide +kernel
theorem dX13_begins_121 : decode cX13_begins 121 = .ok (.aload_n 0, 1) := by decide +kernel
theorem dX13_begins_122 : decode cX13_begins 122 = .ok (.getfield 31, 3) := by decide +kernel
theorem dX13_begins_125 : decode cX13_begins 125 = .ok (.iload_n 1, 1) := by decide +kernel
theorem dX13_begins_126 : decode cX13_begins 126 = .ok (.iconst 0, 1) := by decide +kernel
theorem dX13_begins_127 : decode cX13_begins 127 = .ok (.iastore, 1) := by decide +kernel
theorem dX13_begins_128 : decode cX13_begins 128 = .ok (.iinc 1 1, 3) := by decide +kernel
theorem dX13_begins_131 : decode cX13_begins 131 = .ok (.goto (-19), 3) := by decide +kernel
theorem dX13_begins_134 : decode cX13_begins 134 = .ok (.return_, 1) := by decide +kernel
theorem dX13_town_0 : decode cX13_town 0 = .ok (.aload_n 0, 1) := by decide +kernel
theorem dX13_town_1 : decode cX13_town 1 = .ok (.invokevirtual 325, 3) := by decide +kernel
theorem dX13_town_4 : decode cX13_town 4 = .ok (.aload_n 0, 1) := by decide +kernel
theorem dX13_town_5 : decode cX13_town 5 = .ok (.getfield 194, 3) := by decide +kernel
theorem dX13_town_8 : decode cX13_town 8 = .ok (.ifCond .le 11, 3) := by decide +kernel
theorem dX13_town_11 : decode cX13_town 11 = .ok (.bipush (-2), 2) := by decide +kernel
theorem dX13_town_13 : decode cX13_town 13 = .ok (.aload_n 0, 1) := by decide +kernel
theorem dX13_town_14 : decode cX13_town 14 = .ok (.getfield 194, 3) := by decide +kernel
theorem dX13_town_17 : decode cX13_town 17 = .ok (.isub, 1) := by decide +kernel
theorem dX13_town_18 : decode cX13_town 18 = .ok (.ireturn, 1) := by decide +kernel
theorem dX13_town_19 : decode cX13_town 19 = .ok (.iconst 0, 1) := by decide +kernel
theorem dX13_town_20 : decode cX13_town 20 = .ok (.istore_n 1, 1) := by decide +kernel
theorem dX13_town_21 : decode cX13_town 21 = .ok (.iload_n 1, 1) := by decide +kernel
theorem dX13_town_22 : decode cX13_town 22 = .ok (.iconst 4, 1) := by decide +kernel
theorem dX13_town_23 : decode cX13_town 23 = .ok (.if_icmp .ge 21, 3) := by decide +kernel
theorem dX13_town_26 : decode cX13_town 26 = .ok (.aload_n 0, 1) := by decide +kernel
theorem dX13_town_27 : decode cX13_town 27 = .ok (.getfield 9, 3) := by decide +kernel
theorem dX13_town_30 : decode cX13_town 30 = .ok (.iload_n 1, 1) := by decide +kernel
theorem dX13_town_31 : decode cX13_town 31 = .ok (.aload_n 0, 1) := by decide +kernel
theorem dX13_town_32 : decode cX13_town 32 = .ok (.getfield 67, 3) := by decide +kernel
theorem dX13_town_35 : decode cX13_town 35 = .ok (.iload_n 1, 1) := by decide +kernel
theorem dX13_town_36 : decode cX13_town 36 = .ok (.iaload, 1) := by decide +kernel
theorem dX13_town_37 : decode cX13_town 37 = .ok (.iastore, 1) := by decide +kernel
theorem dX13_town_38 : decode cX13_town 38 = .ok (.iinc 1 1, 3) := by decide +kernel
theorem dX13_town_41 : decode cX13_town 41 = .ok (.goto (-20), 3) := by decide +kernel
theorem dX13_town_44 : decode cX13_town 44 = .ok (.aload_n 0, 1) := by decide +kernel
theorem dX13_town_45 : decode cX13_town 45 = .ok (.getfield 9, 3) := by decide +kernel
theorem dX13_town_48 : decode cX13_town 48 = .ok (.bipush 7, 2) := by decide +kernel
theorem dX13_town_50 : decode cX13_town 50 = .ok (.iconst 0, 1) := by decide +kernel
theorem dX13_town_51 : decode cX13_town 51 = .ok (.iastore, 1) := by decide +kernel
theorem dX13_town_52 : decode cX13_town 52 = .ok (.aload_n 0, 1) := by decide +kernel
theorem dX13_town_53 : decode cX13_town 53 = .ok (.getfield 70, 3) := by decide +kernel
theorem dX13_town_56 : decode cX13_town 56 = .ok (.aload_n 0, 1) := by decide +kernel
theorem dX13_town_57 : decode cX13_town 57 = .ok (.getfield 58, 3) := by decide +kernel
theorem dX13_town_60 : decode cX13_town 60 = .ok (.invokestatic 321, 3) := by decide +kernel
theorem dX13_town_63 : decode cX13_town 63 = .ok (.aload_n 0, 1) := by decide +kernel
theorem dX13_town_64 : decode cX13_town 64 = .ok (.getfield 73, 3) := by decide +kernel
theorem dX13_town_67 : decode cX13_town 67 = .ok (.aload_n 0, 1) := by decide +kernel
theorem dX13_town_68 : decode cX13_town 68 = .ok (.getfield 61, 3) := by decide +kernel
theorem dX13_town_71 : decode cX13_town 71 = .ok (.invokestatic 321, 3) := by decide +kernel
theorem dX13_town_74 : decode cX13_town 74 = .ok (.aload_n 0, 1) := by decide +kernel
theorem dX13_town_75 : decode cX13_town 75 = .ok (.getfield 88, 3) := by decide +kernel
theorem dX13_town_78 : decode cX13_town 78 = .ok (.aload_n 0, 1) := by decide +kernel
theorem dX13_town_79 : decode cX13_town 79 = .ok (.getfield 64, 3) := by decide +kernel
theorem dX13_town_82 : decode cX13_town 82 = .ok (.invokestatic 321, 3) := by decide +kernel
theorem dX13_town_85 : decode cX13_town 85 = .ok (.aload_n 0, 1) := by decide +kernel
theorem dX13_town_86 : decode cX13_town 86 = .ok (.getfield 76, 3) := by decide +kernel
theorem dX13_town_89 : decode cX13_town 89 = .ok (.aload_n 0, 1) := by decide +kernel
theorem dX13_town_90 : decode cX13_town 90 = .ok (.getfield 37, 3) := by decide +kernel
theorem dX13_town_93 : decode cX13_town 93 = .ok (.invokestatic 321, 3) := by decide +kernel
theorem dX13_town_96 : decode cX13_town 96 = .ok (.aload_n 0, 1) := by decide +kernel
theorem dX13_town_97 : decode cX13_town 97 = .ok (.getfield 79, 3) := by decide +kernel
theorem dX13_town_100 : decode cX13_town 100 = .ok (.aload_n 0, 1) := by decide +kernel
theorem dX13_town_101 : decode cX13_town 101 = .ok (.getfield 40, 3) := by decide +kernel
theorem dX13_town_104 : decode cX13_town 104 = .ok (.invokestatic 321, 3) := by decide +kernel
theorem dX13_town_107 : decode cX13_town 107 = .ok (.aload_n 0, 1) := by decide +kernel
theorem dX13_town_108 : decode cX13_town 108 = .ok (.getfield 82, 3) := by decide +kernel
theorem dX13_town_111 : decode cX13_town 111 = .ok (.aload_n 0, 1) := by decide +kernel
theorem dX13_town_112 : decode cX13_town 112 = .ok (.getfield 43, 3) := by decide +kernel
theorem dX13_town_115 : decode cX13_town 115 = .ok (.invokestatic 321, 3) := by decide +kernel
theorem dX13_town_118 : decode cX13_town 118 = .ok (.aload_n 0, 1) := by decide +kernel
theorem dX13_town_119 : decode cX13_town 119 = .ok (.getfield 85, 3) := by decide +kernel
theorem dX13_town_122 : decode cX13_town 122 = .ok (.aload_n 0, 1) := by decide +kernel
theorem dX13_town_123 : decode cX13_town 123 = .ok (.getfield 46, 3) := by decide +kernel
theorem dX13_town_126 : decode cX13_town 126 = .ok (.invokestatic 321, 3) := by decide +kernel
theorem dX13_town_129 : decode cX13_town 129 = .ok (.aload_n 0, 1) := by decide +kernel
theorem dX13_town_130 : decode cX13_town 130 = .ok (.invokevirtual 328, 3) := by decide +kernel
theorem dX13_town_133 : decode cX13_town 133 = .ok (.aload_n 0, 1) := by decide +kernel
theorem dX13_town_134 : decode cX13_town 134 = .ok (.iconst 0, 1) := by decide +kernel
theorem dX13_town_135 : decode cX13_town 135 = .ok (.putfield 331, 3) := by decide +kernel
theorem dX13_town_138 : decode cX13_town 138 = .ok (.aload_n 0, 1) := by decide +kernel
theorem dX13_town_139 : decode cX13_town 139 = .ok (.getfield 9, 3) := by decide +kernel
theorem dX13_town_142 : decode cX13_town 142 = .ok (.iconst 2, 1) := by decide +kernel
theorem dX13_town_143 : decode cX13_town 143 = .ok (.iaload, 1) := by decide +kernel
theorem dX13_town_144 : decode cX13_town 144 = .ok (.ireturn, 1) := by decide +kernel
theorem dX13_ruleClause_0 : decode cX13_ruleClause 0 = .ok (.aload_n 0, 1) := by decide +kernel
theorem dX13_ruleClause_1 : decode cX13_ruleClause 1 = .ok (.invokevirtual 217, 3) := by decide +kernel
theorem dX13_ruleClause_4 : decode cX13_ruleClause 4 = .ok (.aload_n 0, 1) := by decide +kernel
theorem dX13_ruleClause_5 : decode cX13_ruleClause 5 = .ok (.getfield 197, 3) := by decide +kernel
theorem dX13_ruleClause_8 : decode cX13_ruleClause 8 = .ok (.istore_n 2, 1) := by decide +kernel
theorem dX13_ruleClause_9 : decode cX13_ruleClause 9 = .ok (.aload_n 0, 1) := by decide +kernel
theorem dX13_ruleClause_10 : decode cX13_ruleClause 10 = .ok (.ldc_w 334, 3) := by decide +kernel
theorem dX13_ruleClause_13 : decode cX13_ruleClause 13 = .ok (.invokevirtual 220, 3) := by decide +kernel
theorem dX13_ruleClause_16 : decode cX13_ruleClause 16 = .ok (.ifCond .ne 10, 3) := by decide +kernel
theorem dX13_ruleClause_19 : decode cX13_ruleClause 19 = .ok (.aload_n 0, 1) := by decide +kernel
theorem dX13_ruleClause_20 : decode cX13_ruleClause 20 = .ok (.iconst 0, 1) := by decide +kernel
theorem dX13_ruleClause_21 : decode cX13_ruleClause 21 = .ok (.iload_n 2, 1) := by decide +kernel
theorem dX13_ruleClause_22 : decode cX13_ruleClause 22 = .ok (.invokevirtual 233, 3) := by decide +kernel
theorem dX13_ruleClause_25 : decode cX13_ruleClause 25 = .ok (.return_, 1) := by decide +kernel
theorem dX13_ruleClause_26 : decode cX13_ruleClause 26 = .ok (.iload_n 1, 1) := by decide +kernel
theorem dX13_ruleClause_27 : decode cX13_ruleClause 27 = .ok (.bipush 12, 2) := by decide +kernel
theorem dX13_ruleClause_29 : decode cX13_ruleClause 29 = .ok (.if_icmp .ne 10, 3) := by decide +kernel
theorem dX13_ruleClause_32 : decode cX13_ruleClause 32 = .ok (.aload_n 0, 1) := by decide +kernel
theorem dX13_ruleClause_33 : decode cX13_ruleClause 33 = .ok (.iconst 4, 1) := by decide +kernel
theorem dX13_ruleClause_34 : decode cX13_ruleClause 34 = .ok (.iload_n 2, 1) := by decide +kernel
theorem dX13_ruleClause_35 : decode cX13_ruleClause 35 = .ok (.invokevirtual 233, 3) := by decide +kernel
theorem dX13_ruleClause_38 : decode cX13_ruleClause 38 = .ok (.return_, 1) := by decide +kernel
theorem dX13_ruleClause_39 : decode cX13_ruleClause 39 = .ok (.aload_n 0, 1) := by decide +kernel
theorem dX13_ruleClause_40 : decode cX13_ruleClause 40 = .ok (.dup, 1) := by decide +kernel
theorem dX13_ruleClause_41 : decode cX13_ruleClause 41 = .ok (.getfield 197, 3) := by decide +kernel
theorem dX13_ruleClause_44 : decode cX13_ruleClause 44 = .ok (.iconst 3, 1) := by decide +kernel
theorem dX13_ruleClause_45 : decode cX13_ruleClause 45 = .ok (.iadd, 1) := by decide +kernel
theorem dX13_ruleClause_46 : decode cX13_ruleClause 46 = .ok (.putfield 197, 3) := by decide +kernel
theorem dX13_ruleClause_49 : decode cX13_ruleClause 49 = .ok (.bipush 12, 2) := by decide +kernel
theorem dX13_ruleClause_51 : decode cX13_ruleClause 51 = .ok (.aload_n 0, 1) := by decide +kernel
theorem dX13_ruleClause_52 : decode cX13_ruleClause 52 = .ok (.getfield 224, 3) := by decide +kernel
theorem dX13_ruleClause_55 : decode cX13_ruleClause 55 = .ok (.imul, 1) := by decide +kernel
theorem dX13_ruleClause_56 : decode cX13_ruleClause 56 = .ok (.iload_n 1, 1) := by decide +kernel
theorem dX13_ruleClause_57 : decode cX13_ruleClause 57 = .ok (.iadd, 1) := by decide +kernel
theorem dX13_ruleClause_58 : decode cX13_ruleClause 58 = .ok (.istore_n 3, 1) := by decide +kernel
theorem dX13_ruleClause_59 : decode cX13_ruleClause 59 = .ok (.aload_n 0, 1) := by decide +kernel
theorem dX13_ruleClause_60 : decode cX13_ruleClause 60 = .ok (.getfield 108, 3) := by decide +kernel
theorem dX13_ruleClause_63 : decode cX13_ruleClause 63 = .ok (.iload_n 3, 1) := by decide +kernel
theorem dX13_ruleClause_64 : decode cX13_ruleClause 64 = .ok (.aload_n 0, 1) := by decide +kernel
theorem dX13_ruleClause_65 : decode cX13_ruleClause 65 = .ok (.getfield 227, 3) := by decide +kernel
theorem dX13_ruleClause_68 : decode cX13_ruleClause 68 = .ok (.iastore, 1) := by decide +kernel
theorem dX13_ruleClause_69 : decode cX13_ruleClause 69 = .ok (.aload_n 0, 1) := by decide +kernel
theorem dX13_ruleClause_70 : decode cX13_ruleClause 70 = .ok (.invokevirtual 261, 3) := by decide +kernel
theorem dX13_ruleClause_73 : decode cX13_ruleClause 73 = .ok (.aload_n 0, 1) := by decide +kernel
theorem dX13_ruleClause_74 : decode cX13_ruleClause 74 = .ok (.getfield 111, 3) := by decide +kernel
theorem dX13_ruleClause_77 : decode cX13_ruleClause 77 = .ok (.iload_n 3, 1) := by decide +kernel
theorem dX13_ruleClause_78 : decode cX13_ruleClause 78 = .ok (.aload_n 0, 1) := by decide +kernel
theorem dX13_ruleClause_79 : decode cX13_ruleClause 79 = .ok (.getfield 227, 3) := by decide +kernel
theorem dX13_ruleClause_82 : decode cX13_ruleClause 82 = .ok (.iastore, 1) := by decide +kernel
theorem dX13_ruleClause_83 : decode cX13_ruleClause 83 = .ok (.aload_n 0, 1) := by decide +kernel
theorem dX13_ruleClause_84 : decode cX13_ruleClause 84 = .ok (.getfield 194, 3) := by decide +kernel
theorem dX13_ruleClause_87 : decode cX13_ruleClause 87 = .ok (.ifCond .ne 17, 3) := by decide +kernel
theorem dX13_ruleClause_90 : decode cX13_ruleClause 90 = .ok (.aload_n 0, 1) := by decide +kernel
theorem dX13_ruleClause_91 : decode cX13_ruleClause 91 = .ok (.ldc_w 336, 3) := by decide +kernel
theorem dX13_ruleClause_94 : decode cX13_ruleClause 94 = .ok (.invokevirtual 338, 3) := by decide +kernel
theorem dX13_ruleClause_97 : decode cX13_ruleClause 97 = .ok (.ifCond .eq 7, 3) := by decide +kernel
theorem dX13_ruleClause_100 : decode cX13_ruleClause 100 = .ok (.aload_n 0, 1) := by decide +kernel
theorem dX13_ruleClause_101 : decode cX13_ruleClause 101 = .ok (.invokevirtual 341, 3) := by decide +kernel
theorem dX13_ruleClause_104 : decode cX13_ruleClause 104 = .ok (.aload_n 0, 1) := by decide +kernel
theorem dX13_ruleClause_105 : decode cX13_ruleClause 105 = .ok (.getfield 114, 3) := by decide +kernel
theorem dX13_ruleClause_108 : decode cX13_ruleClause 108 = .ok (.iload_n 3, 1) := by decide +kernel
theorem dX13_ruleClause_109 : decode cX13_ruleClause 109 = .ok (.aload_n 0, 1) := by decide +kernel
theorem dX13_ruleClause_110 : decode cX13_ruleClause 110 = .ok (.getfield 227, 3) := by decide +kernel
theorem dX13_ruleClause_113 : decode cX13_ruleClause 113 = .ok (.iastore, 1) := by decide +kernel
theorem dX13_ruleClause_114 : decode cX13_ruleClause 114 = .ok (.return_, 1) := by decide +kernel
theorem dX13_rule_0 : decode cX13_rule 0 = .ok (.aload_n 0, 1) := by decide +kernel
theorem dX13_rule_1 : decode cX13_rule 1 = .ok (.getfield 344, 3) := by decide +kernel
theorem dX13_rule_4 : decode cX13_rule 4 = .ok (.bipush 6, 2) := by decide +kernel
theorem dX13_rule_6 : decode cX13_rule 6 = .ok (.if_icmp .ne 5, 3) := by decide +kernel
theorem dX13_rule_9 : decode cX13_rule 9 = .ok (.iconst (-1), 1) := by decide +kernel
theorem dX13_rule_10 : decode cX13_rule 10 = .ok (.ireturn, 1) := by decide +kernel
theorem dX13_rule_11 : decode cX13_rule 11 = .ok (.aload_n 0, 1) := by decide +kernel
theorem dX13_rule_12 : decode cX13_rule 12 = .ok (.aload_n 0, 1) := by decide +kernel
theorem dX13_rule_13 : decode cX13_rule 13 = .ok (.getfield 344, 3) := by decide +kernel
theorem dX13_rule_16 : decode cX13_rule 16 = .ok (.putfield 224, 3) := by decide +kernel
theorem dX13_rule_19 : decode cX13_rule 19 = .ok (.aload_n 0, 1) := by decide +kernel
theorem dX13_rule_20 : decode cX13_rule 20 = .ok (.invokevirtual 312, 3) := by decide +kernel
theorem dX13_rule_23 : decode cX13_rule 23 = .ok (.iconst 0, 1) := by decide +kernel
theorem dX13_rule_24 : decode cX13_rule 24 = .ok (.istore_n 1, 1) := by decide +kernel
theorem dX13_rule_25 : decode cX13_rule 25 = .ok (.iconst 1, 1) := by decide +kernel
theorem dX13_rule_26 : decode cX13_rule 26 = .ok (.istore_n 2, 1) := by decide +kernel
theorem dX13_rule_27 : decode cX13_rule 27 = .ok (.iload_n 2, 1) := by decide +kernel
theorem dX13_rule_28 : decode cX13_rule 28 = .ok (.ifCond .eq 19, 3) := by decide +kernel
theorem dX13_rule_31 : decode cX13_rule 31 = .ok (.aload_n 0, 1) := by decide +kernel
theorem dX13_rule_32 : decode cX13_rule 32 = .ok (.iload_n 1, 1) := by decide +kernel
theorem dX13_rule_33 : decode cX13_rule 33 = .ok (.invokevirtual 347, 3) := by decide +kernel
theorem dX13_rule_36 : decode cX13_rule 36 = .ok (.iinc 1 1, 3) := by decide +kernel
theorem dX13_rule_39 : decode cX13_rule 39 = .ok (.aload_n 0, 1) := by decide +kernel
theorem dX13_rule_40 : decode cX13_rule 40 = .ok (.invokevirtual 318, 3) := by decide +kernel
theorem dX13_rule_43 : decode cX13_rule 43 = .ok (.istore_n 2, 1) := by decide +kernel
theorem dX13_rule_44 : decode cX13_rule 44 = .ok (.goto (-17), 3) := by decide +kernel
theorem dX13_rule_47 : decode cX13_rule 47 = .ok (.aload_n 0, 1) := by decide +kernel
theorem dX13_rule_48 : decode cX13_rule 48 = .ok (.iconst 0, 1) := by decide +kernel
theorem dX13_rule_49 : decode cX13_rule 49 = .ok (.putfield 165, 3) := by decide +kernel
theorem dX13_rule_52 : decode cX13_rule 52 = .ok (.aload_n 0, 1) := by decide +kernel
theorem dX13_rule_53 : decode cX13_rule 53 = .ok (.getfield 105, 3) := by decide +kernel
theorem dX13_rule_56 : decode cX13_rule 56 = .ok (.aload_n 0, 1) := by decide +kernel
theorem dX13_rule_57 : decode cX13_rule 57 = .ok (.getfield 224, 3) := by decide +kernel
theorem dX13_rule_60 : decode cX13_rule 60 = .ok (.iload_n 1, 1) := by decide +kernel
theorem dX13_rule_61 : decode cX13_rule 61 = .ok (.iastore, 1) := by decide +kernel
theorem dX13_rule_62 : decode cX13_rule 62 = .ok (.aload_n 0, 1) := by decide +kernel
theorem dX13_rule_63 : decode cX13_rule 63 = .ok (.dup, 1) := by decide +kernel
theorem dX13_rule_64 : decode cX13_rule 64 = .ok (.getfield 344, 3) := by decide +kernel
theorem dX13_rule_67 : decode cX13_rule 67 = .ok (.aload_n 0, 1) := by decide +kernel
theorem dX13_rule_68 : decode cX13_rule 68 = .ok (.getfield 194, 3) := by decide +kernel
theorem dX13_rule_71 : decode cX13_rule 71 = .ok (.ifCond .ne 7, 3) := by decide +kernel
theorem dX13_rule_74 : decode cX13_rule 74 = .ok (.iconst 1, 1) := by decide +kernel
theorem dX13_rule_75 : decode cX13_rule 75 = .ok (.goto 4, 3) := by decide +kernel
theorem dX13_rule_78 : decode cX13_rule 78 = .ok (.iconst 0, 1) := by decide +kernel
theorem dX13_rule_79 : decode cX13_rule 79 = .ok (.iadd, 1) := by decide +kernel
theorem dX13_rule_80 : decode cX13_rule 80 = .ok (.putfield 344, 3) := by decide +kernel
theorem dX13_rule_83 : decode cX13_rule 83 = .ok (.aload_n 0, 1) := by decide +kernel
theorem dX13_rule_84 : decode cX13_rule 84 = .ok (.getfield 194, 3) := by decide +kernel
theorem dX13_rule_87 : decode cX13_rule 87 = .ok (.ifCond .le 13, 3) := by decide +kernel
theorem dX13_rule_90 : decode cX13_rule 90 = .ok (.bipush (-2), 2) := by decide +kernel
theorem dX13_rule_92 : decode cX13_rule 92 = .ok (.aload_n 0, 1) := by decide +kernel
theorem dX13_rule_93 : decode cX13_rule 93 = .ok (.getfield 194, 3) := by decide +kernel
theorem dX13_rule_96 : decode cX13_rule 96 = .ok (.isub, 1) := by decide +kernel
theorem dX13_rule_97 : decode cX13_rule 97 = .ok (.goto 9, 3) := by decide +kernel
theorem dX13_rule_100 : decode cX13_rule 100 = .ok (.aload_n 0, 1) := by decide +kernel
theorem dX13_rule_101 : decode cX13_rule 101 = .ok (.getfield 344, 3) := by decide +kernel
theorem dX13_rule_104 : decode cX13_rule 104 = .ok (.iconst 1, 1) := by decide +kernel
theorem dX13_rule_105 : decode cX13_rule 105 = .ok (.isub, 1) := by decide +kernel
theorem dX13_rule_106 : decode cX13_rule 106 = .ok (.ireturn, 1) := by decide +kernel
theorem dX13_force_0 : decode cX13_force 0 = .ok (.iload_n 1, 1) := by decide +kernel
theorem dX13_force_1 : decode cX13_force 1 = .ok (.i2l, 1) := by decide +kernel
theorem dX13_force_2 : decode cX13_force 2 = .ok (.ldc2_w 350, 3) := by decide +kernel
theorem dX13_force_5 : decode cX13_force 5 = .ok (.aload_n 0, 1) := by decide +kernel
theorem dX13_force_6 : decode cX13_force 6 = .ok (.getfield 344, 3) := by decide +kernel
theorem dX13_force_9 : decode cX13_force 9 = .ok (.iconst 1, 1) := by decide +kernel
theorem dX13_force_10 : decode cX13_force 10 = .ok (.isub, 1) := by decide +kernel
theorem dX13_force_11 : decode cX13_force 11 = .ok (.i2l, 1) := by decide +kernel
theorem dX13_force_12 : decode cX13_force 12 = .ok (.invokestatic 161, 3) := by decide +kernel
theorem dX13_force_15 : decode cX13_force 15 = .ok (.ifCond .ne 6, 3) := by decide +kernel
theorem dX13_force_18 : decode cX13_force 18 = .ok (.bipush (-2), 2) := by decide +kernel
theorem dX13_force_20 : decode cX13_force 20 = .ok (.ireturn, 1) := by decide +kernel
theorem dX13_force_21 : decode cX13_force 21 = .ok (.aload_n 0, 1) := by decide +kernel
theorem dX13_force_22 : decode cX13_force 22 = .ok (.getfield 9, 3) := by decide +kernel
theorem dX13_force_25 : decode cX13_force 25 = .ok (.bipush 9, 2) := by decide +kernel
theorem dX13_force_27 : decode cX13_force 27 = .ok (.iaload, 1) := by decide +kernel
theorem dX13_force_28 : decode cX13_force 28 = .ok (.istore_n 2, 1) := by decide +kernel
theorem dX13_force_29 : decode cX13_force 29 = .ok (.aload_n 0, 1) := by decide +kernel
theorem dX13_force_30 : decode cX13_force 30 = .ok (.getfield 9, 3) := by decide +kernel
theorem dX13_force_33 : decode cX13_force 33 = .ok (.bipush 9, 2) := by decide +kernel
theorem dX13_force_35 : decode cX13_force 35 = .ok (.iload_n 1, 1) := by decide +kernel
theorem dX13_force_36 : decode cX13_force 36 = .ok (.iastore, 1) := by decide +kernel
theorem dX13_force_37 : decode cX13_force 37 = .ok (.iload_n 2, 1) := by decide +kernel
theorem dX13_force_38 : decode cX13_force 38 = .ok (.ireturn, 1) := by decide +kernel
theorem dX13_wanted_0 : decode cX13_wanted 0 = .ok (.aload_n 0, 1) := by decide +kernel
theorem dX13_wanted_1 : decode cX13_wanted 1 = .ok (.getfield 9, 3) := by decide +kernel
theorem dX13_wanted_4 : decode cX13_wanted 4 = .ok (.bipush 9, 2) := by decide +kernel
theorem dX13_wanted_6 : decode cX13_wanted 6 = .ok (.iaload, 1) := by decide +kernel
theorem dX13_wanted_7 : decode cX13_wanted 7 = .ok (.istore_n 1, 1) := by decide +kernel
theorem dX13_wanted_8 : decode cX13_wanted 8 = .ok (.bipush 12, 2) := by decide +kernel
theorem dX13_wanted_10 : decode cX13_wanted 10 = .ok (.iload_n 1, 1) := by decide +kernel
theorem dX13_wanted_11 : decode cX13_wanted 11 = .ok (.imul, 1) := by decide +kernel
theorem dX13_wanted_12 : decode cX13_wanted 12 = .ok (.istore_n 2, 1) := by decide +kernel
theorem dX13_wanted_13 : decode cX13_wanted 13 = .ok (.iload_n 2, 1) := by decide +kernel
theorem dX13_wanted_14 : decode cX13_wanted 14 = .ok (.bipush 12, 2) := by decide +kernel
theorem dX13_wanted_16 : decode cX13_wanted 16 = .ok (.iload_n 1, 1) := by decide +kernel
theorem dX13_wanted_17 : decode cX13_wanted 17 = .ok (.imul, 1) := by decide +kernel
theorem dX13_wanted_18 : decode cX13_wanted 18 = .ok (.aload_n 0, 1) := by decide +kernel
theorem dX13_wanted_19 : decode cX13_wanted 19 = .ok (.getfield 105, 3) := by decide +kernel
theorem dX13_wanted_22 : decode cX13_wanted 22 = .ok (.iload_n 1, 1) := by decide +kernel
theorem dX13_wanted_23 : decode cX13_wanted 23 = .ok (.iaload, 1) := by decide +kernel
theorem dX13_wanted_24 : decode cX13_wanted 24 = .ok (.iadd, 1) := by decide +kernel
theorem dX13_wanted_25 : decode cX13_wanted 25 = .ok (.if_icmp .ge 64, 3) := by decide +kernel
theorem dX13_wanted_28 : decode cX13_wanted 28 = .ok (.aload_n 0, 1) := by decide +kernel
theorem dX13_wanted_29 : decode cX13_wanted 29 = .ok (.getfield 111, 3) := by decide +kernel
theorem dX13_wanted_32 : decode cX13_wanted 32 = .ok (.iload_n 2, 1) := by decide +kernel
theorem dX13_wanted_33 : decode cX13_wanted 33 = .ok (.iaload, 1) := by decide +kernel
theorem dX13_wanted_34 : decode cX13_wanted 34 = .ok (.aload_n 0, 1) := by decide +kernel
theorem dX13_wanted_35 : decode cX13_wanted 35 = .ok (.getfield 114, 3) := by decide +kernel
theorem dX13_wanted_38 : decode cX13_wanted 38 = .ok (.iload_n 2, 1) := by decide +kernel
theorem dX13_wanted_39 : decode cX13_wanted 39 = .ok (.iaload, 1) := by decide +kernel
theorem dX13_wanted_40 : decode cX13_wanted 40 = .ok (.if_icmp .eq 25, 3) := by decide +kernel
theorem dX13_wanted_43 : decode cX13_wanted 43 = .ok (.aload_n 0, 1) := by decide +kernel
theorem dX13_wanted_44 : decode cX13_wanted 44 = .ok (.iload_n 1, 1) := by decide +kernel
theorem dX13_wanted_45 : decode cX13_wanted 45 = .ok (.aload_n 0, 1) := by decide +kernel
theorem dX13_wanted_46 : decode cX13_wanted 46 = .ok (.getfield 111, 3) := by decide +kernel
theorem dX13_wanted_49 : decode cX13_wanted 49 = .ok (.iload_n 2, 1) := by decide +kernel
theorem dX13_wanted_50 : decode cX13_wanted 50 = .ok (.iaload, 1) := by decide +kernel
theorem dX13_wanted_51 : decode cX13_wanted 51 = .ok (.aload_n 0, 1) := by decide +kernel
theorem dX13_wanted_52 : decode cX13_wanted 52 = .ok (.getfield 114, 3) := by decide +kernel
theorem dX13_wanted_55 : decode cX13_wanted 55 = .ok (.iload_n 2, 1) := by decide +kernel
theorem dX13_wanted_56 : decode cX13_wanted 56 = .ok (.iaload, 1) := by decide +kernel
theorem dX13_wanted_57 : decode cX13_wanted 57 = .ok (.invokevirtual 352, 3) := by decide +kernel
theorem dX13_wanted_60 : decode cX13_wanted 60 = .ok (.lconst 1, 1) := by decide +kernel
theorem dX13_wanted_61 : decode cX13_wanted 61 = .ok (.lcmp, 1) := by decide +kernel
theorem dX13_wanted_62 : decode cX13_wanted 62 = .ok (.ifCond .ne 21, 3) := by decide +kernel
theorem dX13_wanted_65 : decode cX13_wanted 65 = .ok (.aload_n 0, 1) := by decide +kernel
theorem dX13_wanted_66 : decode cX13_wanted 66 = .ok (.iload_n 1, 1) := by decide +kernel
theorem dX13_wanted_67 : decode cX13_wanted 67 = .ok (.aload_n 0, 1) := by decide +kernel
theorem dX13_wanted_68 : decode cX13_wanted 68 = .ok (.getfield 108, 3) := by decide +kernel
theorem dX13_wanted_71 : decode cX13_wanted 71 = .ok (.iload_n 2, 1) := by decide +kernel
theorem dX13_wanted_72 : decode cX13_wanted 72 = .ok (.iaload, 1) := by decide +kernel
theorem dX13_wanted_73 : decode cX13_wanted 73 = .ok (.aload_n 0, 1) := by decide +kernel
theorem dX13_wanted_74 : decode cX13_wanted 74 = .ok (.getfield 111, 3) := by decide +kernel
theorem dX13_wanted_77 : decode cX13_wanted 77 = .ok (.iload_n 2, 1) := by decide +kernel
theorem dX13_wanted_78 : decode cX13_wanted 78 = .ok (.iaload, 1) := by decide +kernel
theorem dX13_wanted_79 : decode cX13_wanted 79 = .ok (.invokevirtual 352, 3) := by decide +kernel
theorem dX13_wanted_82 : decode cX13_wanted 82 = .ok (.lreturn, 1) := by decide +kernel
theorem dX13_wanted_83 : decode cX13_wanted 83 = .ok (.iinc 2 1, 3) := by decide +kernel
theorem dX13_wanted_86 : decode cX13_wanted 86 = .ok (.goto (-73), 3) := by decide +kernel
theorem dX13_wanted_89 : decode cX13_wanted 89 = .ok (.lconst 0, 1) := by decide +kernel
theorem dX13_wanted_90 : decode cX13_wanted 90 = .ok (.lreturn, 1) := by decide +kernel
theorem dX13_truth_0 : decode cX13_truth 0 = .ok (.iload_n 0, 1) := by decide +kernel
theorem dX13_truth_1 : decode cX13_truth 1 = .ok (.ifCond .eq 7, 3) := by decide +kernel
theorem dX13_truth_4 : decode cX13_truth 4 = .ok (.lconst 1, 1) := by decide +kernel
theorem dX13_truth_5 : decode cX13_truth 5 = .ok (.goto 4, 3) := by decide +kernel
theorem dX13_truth_8 : decode cX13_truth 8 = .ok (.lconst 0, 1) := by decide +kernel
theorem dX13_truth_9 : decode cX13_truth 9 = .ok (.lreturn, 1) := by decide +kernel
theorem dX13_both_0 : decode cX13_both 0 = .ok (.iload_n 0, 1) := by decide +kernel
theorem dX13_both_1 : decode cX13_both 1 = .ok (.tableswitch 190 2 15 #[71, 75, 111, 126, 141, 156, 171, 190, 186, 190, 190, 79, 83, 97], 71) := by decide +kernel
theorem dX13_both_72 : decode cX13_both 72 = .ok (.lload_n 1, 1) := by decide +kernel
theorem dX13_both_73 : decode cX13_both 73 = .ok (.lload_n 3, 1) := by decide +kernel
theorem dX13_both_74 : decode cX13_both 74 = .ok (.ladd, 1) := by decide +kernel
theorem dX13_both_75 : decode cX13_both 75 = .ok (.lreturn, 1) := by decide +kernel
theorem dX13_both_76 : decode cX13_both 76 = .ok (.lload_n 1, 1) := by decide +kernel
theorem dX13_both_77 : decode cX13_both 77 = .ok (.lload_n 3, 1) := by decide +kernel
theorem dX13_both_78 : decode cX13_both 78 = .ok (.lsub, 1) := by decide +kernel
theorem dX13_both_79 : decode cX13_both 79 = .ok (.lreturn, 1) := by decide +kernel
theorem dX13_both_80 : decode cX13_both 80 = .ok (.lload_n 1, 1) := by decide +kernel
theorem dX13_both_81 : decode cX13_both 81 = .ok (.lload_n 3, 1) := by decide +kernel
theorem dX13_both_82 : decode cX13_both 82 = .ok (.lmul, 1) := by decide +kernel
theorem dX13_both_83 : decode cX13_both 83 = .ok (.lreturn, 1) := by decide +kernel
theorem dX13_both_84 : decode cX13_both 84 = .ok (.lload_n 3, 1) := by decide +kernel
theorem dX13_both_85 : decode cX13_both 85 = .ok (.lconst 0, 1) := by decide +kernel
theorem dX13_both_86 : decode cX13_both 86 = .ok (.lcmp, 1) := by decide +kernel
theorem dX13_both_87 : decode cX13_both 87 = .ok (.ifCond .ne 7, 3) := by decide +kernel
theorem dX13_both_90 : decode cX13_both 90 = .ok (.lconst 0, 1) := by decide +kernel
theorem dX13_both_91 : decode cX13_both 91 = .ok (.goto 6, 3) := by decide +kernel
theorem dX13_both_94 : decode cX13_both 94 = .ok (.lload_n 1, 1) := by decide +kernel
theorem dX13_both_95 : decode cX13_both 95 = .ok (.lload_n 3, 1) := by decide +kernel
theorem dX13_both_96 : decode cX13_both 96 = .ok (.ldiv, 1) := by decide +kernel
theorem dX13_both_97 : decode cX13_both 97 = .ok (.lreturn, 1) := by decide +kernel
theorem dX13_both_98 : decode cX13_both 98 = .ok (.lload_n 3, 1) := by decide +kernel
theorem dX13_both_99 : decode cX13_both 99 = .ok (.lconst 0, 1) := by decide +kernel
theorem dX13_both_100 : decode cX13_both 100 = .ok (.lcmp, 1) := by decide +kernel
theorem dX13_both_101 : decode cX13_both 101 = .ok (.ifCond .ne 7, 3) := by decide +kernel
theorem dX13_both_104 : decode cX13_both 104 = .ok (.lconst 0, 1) := by decide +kernel
theorem dX13_both_105 : decode cX13_both 105 = .ok (.goto 6, 3) := by decide +kernel
theorem dX13_both_108 : decode cX13_both 108 = .ok (.lload_n 1, 1) := by decide +kernel
theorem dX13_both_109 : decode cX13_both 109 = .ok (.lload_n 3, 1) := by decide +kernel
theorem dX13_both_110 : decode cX13_both 110 = .ok (.lrem, 1) := by decide +kernel
theorem dX13_both_111 : decode cX13_both 111 = .ok (.lreturn, 1) := by decide +kernel
theorem dX13_both_112 : decode cX13_both 112 = .ok (.lload_n 1, 1) := by decide +kernel
theorem dX13_both_113 : decode cX13_both 113 = .ok (.lload_n 3, 1) := by decide +kernel
theorem dX13_both_114 : decode cX13_both 114 = .ok (.lcmp, 1) := by decide +kernel
theorem dX13_both_115 : decode cX13_both 115 = .ok (.ifCond .ge 7, 3) := by decide +kernel
theorem dX13_both_118 : decode cX13_both 118 = .ok (.iconst 1, 1) := by decide +kernel
theorem dX13_both_119 : decode cX13_both 119 = .ok (.goto 4, 3) := by decide +kernel
theorem dX13_both_122 : decode cX13_both 122 = .ok (.iconst 0, 1) := by decide +kernel
theorem dX13_both_123 : decode cX13_both 123 = .ok (.invokestatic 356, 3) := by decide +kernel
theorem dX13_both_126 : decode cX13_both 126 = .ok (.lreturn, 1) := by decide +kernel
theorem dX13_both_127 : decode cX13_both 127 = .ok (.lload_n 1, 1) := by decide +kernel
theorem dX13_both_128 : decode cX13_both 128 = .ok (.lload_n 3, 1) := by decide +kernel
theorem dX13_both_129 : decode cX13_both 129 = .ok (.lcmp, 1) := by decide +kernel
theorem dX13_both_130 : decode cX13_both 130 = .ok (.ifCond .gt 7, 3) := by decide +kernel
theorem dX13_both_133 : decode cX13_both 133 = .ok (.iconst 1, 1) := by decide +kernel
theorem dX13_both_134 : decode cX13_both 134 = .ok (.goto 4, 3) := by decide +kernel
theorem dX13_both_137 : decode cX13_both 137 = .ok (.iconst 0, 1) := by decide +kernel
theorem dX13_both_138 : decode cX13_both 138 = .ok (.invokestatic 356, 3) := by decide +kernel
theorem dX13_both_141 : decode cX13_both 141 = .ok (.lreturn, 1) := by decide +kernel
theorem dX13_both_142 : decode cX13_both 142 = .ok (.lload_n 1, 1) := by decide +kernel
theorem dX13_both_143 : decode cX13_both 143 = .ok (.lload_n 3, 1) := by decide +kernel
theorem dX13_both_144 : decode cX13_both 144 = .ok (.lcmp, 1) := by decide +kernel
theorem dX13_both_145 : decode cX13_both 145 = .ok (.ifCond .ne 7, 3) := by decide +kernel
theorem dX13_both_148 : decode cX13_both 148 = .ok (.iconst 1, 1) := by decide +kernel
theorem dX13_both_149 : decode cX13_both 149 = .ok (.goto 4, 3) := by decide +kernel
theorem dX13_both_152 : decode cX13_both 152 = .ok (.iconst 0, 1) := by decide +kernel
theorem dX13_both_153 : decode cX13_both 153 = .ok (.invokestatic 356, 3) := by decide +kernel
theorem dX13_both_156 : decode cX13_both 156 = .ok (.lreturn, 1) := by decide +kernel
theorem dX13_both_157 : decode cX13_both 157 = .ok (.lload_n 1, 1) := by decide +kernel
theorem dX13_both_158 : decode cX13_both 158 = .ok (.lload_n 3, 1) := by decide +kernel
theorem dX13_both_159 : decode cX13_both 159 = .ok (.lcmp, 1) := by decide +kernel
theorem dX13_both_160 : decode cX13_both 160 = .ok (.ifCond .lt 7, 3) := by decide +kernel
theorem dX13_both_163 : decode cX13_both 163 = .ok (.iconst 1, 1) := by decide +kernel
theorem dX13_both_164 : decode cX13_both 164 = .ok (.goto 4, 3) := by decide +kernel
theorem dX13_both_167 : decode cX13_both 167 = .ok (.iconst 0, 1) := by decide +kernel
theorem dX13_both_168 : decode cX13_both 168 = .ok (.invokestatic 356, 3) := by decide +kernel
theorem dX13_both_171 : decode cX13_both 171 = .ok (.lreturn, 1) := by decide +kernel
theorem dX13_both_172 : decode cX13_both 172 = .ok (.lload_n 1, 1) := by decide +kernel
theorem dX13_both_173 : decode cX13_both 173 = .ok (.lload_n 3, 1) := by decide +kernel
theorem dX13_both_174 : decode cX13_both 174 = .ok (.lcmp, 1) := by decide +kernel
theorem dX13_both_175 : decode cX13_both 175 = .ok (.ifCond .le 7, 3) := by decide +kernel
theorem dX13_both_178 : decode cX13_both 178 = .ok (.iconst 1, 1) := by decide +kernel
theorem dX13_both_179 : decode cX13_both 179 = .ok (.goto 4, 3) := by decide +kernel
theorem dX13_both_182 : decode cX13_both 182 = .ok (.iconst 0, 1) := by decide +kernel
theorem dX13_both_183 : decode cX13_both 183 = .ok (.invokestatic 356, 3) := by decide +kernel
theorem dX13_both_186 : decode cX13_both 186 = .ok (.lreturn, 1) := by decide +kernel
theorem dX13_both_187 : decode cX13_both 187 = .ok (.lload_n 1, 1) := by decide +kernel
theorem dX13_both_188 : decode cX13_both 188 = .ok (.lload_n 3, 1) := by decide +kernel
theorem dX13_both_189 : decode cX13_both 189 = .ok (.land, 1) := by decide +kernel
theorem dX13_both_190 : decode cX13_both 190 = .ok (.lreturn, 1) := by decide +kernel
theorem dX13_both_191 : decode cX13_both 191 = .ok (.lload_n 1, 1) := by decide +kernel
theorem dX13_both_192 : decode cX13_both 192 = .ok (.lload_n 3, 1) := by decide +kernel
theorem dX13_both_193 : decode cX13_both 193 = .ok (.lor, 1) := by decide +kernel
theorem dX13_both_194 : decode cX13_both 194 = .ok (.lreturn, 1) := by decide +kernel
theorem dX13_answer_0 : decode cX13_answer 0 = .ok (.iconst 0, 1) := by decide +kernel
theorem dX13_answer_1 : decode cX13_answer 1 = .ok (.istore 4, 2) := by decide +kernel
theorem dX13_answer_3 : decode cX13_answer 3 = .ok (.iload_n 2, 1) := by decide +kernel
theorem dX13_answer_4 : decode cX13_answer 4 = .ok (.istore 5, 2) := by decide +kernel
theorem dX13_answer_6 : decode cX13_answer 6 = .ok (.iload 5, 2) := by decide +kernel
theorem dX13_answer_8 : decode cX13_answer 8 = .ok (.iload_n 3, 1) := by decide +kernel
theorem dX13_answer_9 : decode cX13_answer 9 = .ok (.if_icmp .ge 144, 3) := by decide +kernel
theorem dX13_answer_12 : decode cX13_answer 12 = .ok (.aload_n 0, 1) := by decide +kernel
theorem dX13_answer_13 : decode cX13_answer 13 = .ok (.getfield 99, 3) := by decide +kernel
theorem dX13_answer_16 : decode cX13_answer 16 = .ok (.sipush 300, 3) := by decide +kernel
theorem dX13_answer_19 : decode cX13_answer 19 = .ok (.iload_n 1, 1) := by decide +kernel
theorem dX13_answer_20 : decode cX13_answer 20 = .ok (.imul, 1) := by decide +kernel
theorem dX13_answer_21 : decode cX13_answer 21 = .ok (.iload 5, 2) := by decide +kernel
theorem dX13_answer_23 : decode cX13_answer 23 = .ok (.iadd, 1) := by decide +kernel
theorem dX13_answer_24 : decode cX13_answer 24 = .ok (.iaload, 1) := by decide +kernel
theorem dX13_answer_25 : decode cX13_answer 25 = .ok (.istore 6, 2) := by decide +kernel
theorem dX13_answer_27 : decode cX13_answer 27 = .ok (.aload_n 0, 1) := by decide +kernel
theorem dX13_answer_28 : decode cX13_answer 28 = .ok (.getfield 102, 3) := by decide +kernel
theorem dX13_answer_31 : decode cX13_answer 31 = .ok (.sipush 300, 3) := by decide +kernel
theorem dX13_answer_34 : decode cX13_answer 34 = .ok (.iload_n 1, 1) := by decide +kernel
theorem dX13_answer_35 : decode cX13_answer 35 = .ok (.imul, 1) := by decide +kernel
theorem dX13_answer_36 : decode cX13_answer 36 = .ok (.iload 5, 2) := by decide +kernel
theorem dX13_answer_38 : decode cX13_answer 38 = .ok (.iadd, 1) := by decide +kernel
theorem dX13_answer_39 : decode cX13_answer 39 = .ok (.iaload, 1) := by decide +kernel
theorem dX13_answer_40 : decode cX13_answer 40 = .ok (.istore 7, 2) := by decide +kernel
theorem dX13_answer_42 : decode cX13_answer 42 = .ok (.iload 6, 2) := by decide +kernel
theorem dX13_answer_44 : decode cX13_answer 44 = .ok (.ifCond .eq 9, 3) := by decide +kernel
theorem dX13_answer_47 : decode cX13_answer 47 = .ok (.iload 6, 2) := by decide +kernel
theorem dX13_answer_49 : decode cX13_answer 49 = .ok (.iconst 1, 1) := by decide +kernel
theorem dX13_answer_50 : decode cX13_answer 50 = .ok (.if_icmp .ne 34, 3) := by decide +kernel
theorem dX13_answer_53 : decode cX13_answer 53 = .ok (.aload_n 0, 1) := by decide +kernel
theorem dX13_answer_54 : decode cX13_answer 54 = .ok (.getfield 124, 3) := by decide +kernel
theorem dX13_answer_57 : decode cX13_answer 57 = .ok (.iload 4, 2) := by decide +kernel
theorem dX13_answer_59 : decode cX13_answer 59 = .ok (.iload 6, 2) := by decide +kernel
theorem dX13_answer_61 : decode cX13_answer 61 = .ok (.ifCond .ne 9, 3) := by decide +kernel
theorem dX13_answer_64 : decode cX13_answer 64 = .ok (.iload 7, 2) := by decide +kernel
theorem dX13_answer_66 : decode cX13_answer 66 = .ok (.i2l, 1) := by decide +kernel
theorem dX13_answer_67 : decode cX13_answer 67 = .ok (.goto 10, 3) := by decide +kernel
theorem dX13_answer_70 : decode cX13_answer 70 = .ok (.aload_n 0, 1) := by decide +kernel
theorem dX13_answer_71 : decode cX13_answer 71 = .ok (.getfield 120, 3) := by decide +kernel
theorem dX13_answer_74 : decode cX13_answer 74 = .ok (.iload 7, 2) := by decide +kernel
theorem dX13_answer_76 : decode cX13_answer 76 = .ok (.laload, 1) := by decide +kernel
theorem dX13_answer_77 : decode cX13_answer 77 = .ok (.lastore, 1) := by decide +kernel
theorem dX13_answer_78 : decode cX13_answer 78 = .ok (.iinc 4 1, 3) := by decide +kernel
theorem dX13_answer_81 : decode cX13_answer 81 = .ok (.goto 66, 3) := by decide +kernel
theorem dX13_answer_84 : decode cX13_answer 84 = .ok (.iload 6, 2) := by decide +kernel
theorem dX13_answer_86 : decode cX13_answer 86 = .ok (.bipush 9, 2) := by decide +kernel
theorem dX13_answer_88 : decode cX13_answer 88 = .ok (.if_icmp .ne 26, 3) := by decide +kernel
theorem dX13_answer_91 : decode cX13_answer 91 = .ok (.aload_n 0, 1) := by decide +kernel
theorem dX13_answer_92 : decode cX13_answer 92 = .ok (.getfield 124, 3) := by decide +kernel
theorem dX13_answer_95 : decode cX13_answer 95 = .ok (.iload 4, 2) := by decide +kernel
theorem dX13_answer_97 : decode cX13_answer 97 = .ok (.iconst 1, 1) := by decide +kernel
theorem dX13_answer_98 : decode cX13_answer 98 = .ok (.isub, 1) := by decide +kernel
theorem dX13_answer_99 : decode cX13_answer 99 = .ok (.lconst 1, 1) := by decide +kernel
theorem dX13_answer_100 : decode cX13_answer 100 = .ok (.aload_n 0, 1) := by decide +kernel
theorem dX13_answer_101 : decode cX13_answer 101 = .ok (.getfield 124, 3) := by decide +kernel
theorem dX13_answer_104 : decode cX13_answer 104 = .ok (.iload 4, 2) := by decide +kernel
theorem dX13_answer_106 : decode cX13_answer 106 = .ok (.iconst 1, 1) := by decide +kernel
theorem dX13_answer_107 : decode cX13_answer 107 = .ok (.isub, 1) := by decide +kernel
theorem dX13_answer_108 : decode cX13_answer 108 = .ok (.laload, 1) := by decide +kernel
theorem dX13_answer_109 : decode cX13_answer 109 = .ok (.lsub, 1) := by decide +kernel
theorem dX13_answer_110 : decode cX13_answer 110 = .ok (.lastore, 1) := by decide +kernel
theorem dX13_answer_111 : decode cX13_answer 111 = .ok (.goto 36, 3) := by decide +kernel
theorem dX13_answer_114 : decode cX13_answer 114 = .ok (.iinc 4 (-1), 3) := by decide +kernel
theorem dX13_answer_117 : decode cX13_answer 117 = .ok (.aload_n 0, 1) := by decide +kernel
theorem dX13_answer_118 : decode cX13_answer 118 = .ok (.getfield 124, 3) := by decide +kernel
theorem dX13_answer_121 : decode cX13_answer 121 = .ok (.iload 4, 2) := by decide +kernel
theorem dX13_answer_123 : decode cX13_answer 123 = .ok (.iconst 1, 1) := by decide +kernel
theorem dX13_answer_124 : decode cX13_answer 124 = .ok (.isub, 1) := by decide +kernel
theorem dX13_answer_125 : decode cX13_answer 125 = .ok (.iload 6, 2) := by decide +kernel
theorem dX13_answer_127 : decode cX13_answer 127 = .ok (.aload_n 0, 1) := by decide +kernel
theorem dX13_answer_128 : decode cX13_answer 128 = .ok (.getfield 124, 3) := by decide +kernel
theorem dX13_answer_131 : decode cX13_answer 131 = .ok (.iload 4, 2) := by decide +kernel
theorem dX13_answer_133 : decode cX13_answer 133 = .ok (.iconst 1, 1) := by decide +kernel
theorem dX13_answer_134 : decode cX13_answer 134 = .ok (.isub, 1) := by decide +kernel
theorem dX13_answer_135 : decode cX13_answer 135 = .ok (.laload, 1) := by decide +kernel
theorem dX13_answer_136 : decode cX13_answer 136 = .ok (.aload_n 0, 1) := by decide +kernel
theorem dX13_answer_137 : decode cX13_answer 137 = .ok (.getfield 124, 3) := by decide +kernel
theorem dX13_answer_140 : decode cX13_answer 140 = .ok (.iload 4, 2) := by decide +kernel
theorem dX13_answer_142 : decode cX13_answer 142 = .ok (.laload, 1) := by decide +kernel
theorem dX13_answer_143 : decode cX13_answer 143 = .ok (.invokestatic 360, 3) := by decide +kernel
theorem dX13_answer_146 : decode cX13_answer 146 = .ok (.lastore, 1) := by decide +kernel
theorem dX13_answer_147 : decode cX13_answer 147 = .ok (.iinc 5 1, 3) := by decide +kernel
theorem dX13_answer_150 : decode cX13_answer 150 = .ok (.goto (-144), 3) := by decide +kernel
theorem dX13_answer_153 : decode cX13_answer 153 = .ok (.aload_n 0, 1) := by decide +kernel
theorem dX13_answer_154 : decode cX13_answer 154 = .ok (.getfield 124, 3) := by decide +kernel
theorem dX13_answer_157 : decode cX13_answer 157 = .ok (.iconst 0, 1) := by decide +kernel
theorem dX13_answer_158 : decode cX13_answer 158 = .ok (.laload, 1) := by decide +kernel
theorem dX13_answer_159 : decode cX13_answer 159 = .ok (.lreturn, 1) := by decide +kernel
theorem dX13_person_0 : decode cX13_person 0 = .ok (.aload_n 0, 1) := by decide +kernel
theorem dX13_person_1 : decode cX13_person 1 = .ok (.iload_n 1, 1) := by decide +kernel
theorem dX13_person_2 : decode cX13_person 2 = .ok (.invokevirtual 364, 3) := by decide +kernel
theorem dX13_person_5 : decode cX13_person 5 = .ok (.ifCond .ne 5, 3) := by decide +kernel
theorem dX13_person_8 : decode cX13_person 8 = .ok (.iconst (-1), 1) := by decide +kernel
theorem dX13_person_9 : decode cX13_person 9 = .ok (.ireturn, 1) := by decide +kernel
theorem dX13_person_10 : decode cX13_person 10 = .ok (.iload_n 2, 1) := by decide +kernel
theorem dX13_person_11 : decode cX13_person 11 = .ok (.tableswitch 79 0 5 #[37, 44, 51, 58, 65, 72], 37) := by decide +kernel
theorem dX13_person_48 : decode cX13_person 48 = .ok (.aload_n 0, 1) := by decide +kernel
theorem dX13_person_49 : decode cX13_person 49 = .ok (.getfield 13, 3) := by decide +kernel
theorem dX13_person_52 : decode cX13_person 52 = .ok (.iload_n 1, 1) := by decide +kernel
theorem dX13_person_53 : decode cX13_person 53 = .ok (.iaload, 1) := by decide +kernel
theorem dX13_person_54 : decode cX13_person 54 = .ok (.ireturn, 1) := by decide +kernel
theorem dX13_person_55 : decode cX13_person 55 = .ok (.aload_n 0, 1) := by decide +kernel
theorem dX13_person_56 : decode cX13_person 56 = .ok (.getfield 16, 3) := by decide +kernel
theorem dX13_person_59 : decode cX13_person 59 = .ok (.iload_n 1, 1) := by decide +kernel
theorem dX13_person_60 : decode cX13_person 60 = .ok (.iaload, 1) := by decide +kernel
theorem dX13_person_61 : decode cX13_person 61 = .ok (.ireturn, 1) := by decide +kernel
theorem dX13_person_62 : decode cX13_person 62 = .ok (.aload_n 0, 1) := by decide +kernel
theorem dX13_person_63 : decode cX13_person 63 = .ok (.getfield 37, 3) := by decide +kernel
theorem dX13_person_66 : decode cX13_person 66 = .ok (.iload_n 1, 1) := by decide +kernel
theorem dX13_person_67 : decode cX13_person 67 = .ok (.iaload, 1) := by decide +kernel
theorem dX13_person_68 : decode cX13_person 68 = .ok (.ireturn, 1) := by decide +kernel
theorem dX13_person_69 : decode cX13_person 69 = .ok (.aload_n 0, 1) := by decide +kernel
theorem dX13_person_70 : decode cX13_person 70 = .ok (.getfield 19, 3) := by decide +kernel
theorem dX13_person_73 : decode cX13_person 73 = .ok (.iload_n 1, 1) := by decide +kernel
theorem dX13_person_74 : decode cX13_person 74 = .ok (.iaload, 1) := by decide +kernel
theorem dX13_person_75 : decode cX13_person 75 = .ok (.ireturn, 1) := by decide +kernel
theorem dX13_person_76 : decode cX13_person 76 = .ok (.aload_n 0, 1) := by decide +kernel
theorem dX13_person_77 : decode cX13_person 77 = .ok (.getfield 22, 3) := by decide +kernel
theorem dX13_person_80 : decode cX13_person 80 = .ok (.iload_n 1, 1) := by decide +kernel
theorem dX13_person_81 : decode cX13_person 81 = .ok (.iaload, 1) := by decide +kernel
theorem dX13_person_82 : decode cX13_person 82 = .ok (.ireturn, 1) := by decide +kernel
theorem dX13_person_83 : decode cX13_person 83 = .ok (.aload_n 0, 1) := by decide +kernel
theorem dX13_person_84 : decode cX13_person 84 = .ok (.getfield 25, 3) := by decide +kernel
theorem dX13_person_87 : decode cX13_person 87 = .ok (.iload_n 1, 1) := by decide +kernel
theorem dX13_person_88 : decode cX13_person 88 = .ok (.iaload, 1) := by decide +kernel
theorem dX13_person_89 : decode cX13_person 89 = .ok (.ireturn, 1) := by decide +kernel
theorem dX13_person_90 : decode cX13_person 90 = .ok (.iconst (-1), 1) := by decide +kernel
theorem dX13_person_91 : decode cX13_person 91 = .ok (.ireturn, 1) := by decide +kernel
theorem dX13_stranger_0 : decode cX13_stranger 0 = .ok (.aload_n 0, 1) := by decide +kernel
theorem dX13_stranger_1 : decode cX13_stranger 1 = .ok (.iload_n 1, 1) := by decide +kernel
theorem dX13_stranger_2 : decode cX13_stranger 2 = .ok (.invokevirtual 368, 3) := by decide +kernel
theorem dX13_stranger_5 : decode cX13_stranger 5 = .ok (.ifCond .ne 6, 3) := by decide +kernel
theorem dX13_stranger_8 : decode cX13_stranger 8 = .ok (.bipush (-2), 2) := by decide +kernel
theorem dX13_stranger_10 : decode cX13_stranger 10 = .ok (.ireturn, 1) := by decide +kernel
theorem dX13_stranger_11 : decode cX13_stranger 11 = .ok (.iload_n 2, 1) := by decide +kernel
theorem dX13_stranger_12 : decode cX13_stranger 12 = .ok (.tableswitch 60 0 3 #[32, 39, 46, 53], 32) := by decide +kernel
theorem dX13_stranger_44 : decode cX13_stranger 44 = .ok (.aload_n 0, 1) := by decide +kernel
theorem dX13_stranger_45 : decode cX13_stranger 45 = .ok (.getfield 40, 3) := by decide +kernel
theorem dX13_stranger_48 : decode cX13_stranger 48 = .ok (.iload_n 1, 1) := by decide +kernel
theorem dX13_stranger_49 : decode cX13_stranger 49 = .ok (.iaload, 1) := by decide +kernel
theorem dX13_stranger_50 : decode cX13_stranger 50 = .ok (.ireturn, 1) := by decide +kernel
theorem dX13_stranger_51 : decode cX13_stranger 51 = .ok (.aload_n 0, 1) := by decide +kernel
theorem dX13_stranger_52 : decode cX13_stranger 52 = .ok (.getfield 43, 3) := by decide +kernel
theorem dX13_stranger_55 : decode cX13_stranger 55 = .ok (.iload_n 1, 1) := by decide +kernel
theorem dX13_stranger_56 : decode cX13_stranger 56 = .ok (.iaload, 1) := by decide +kernel
theorem dX13_stranger_57 : decode cX13_stranger 57 = .ok (.ireturn, 1) := by decide +kernel
theorem dX13_stranger_58 : decode cX13_stranger 58 = .ok (.aload_n 0, 1) := by decide +kernel
theorem dX13_stranger_59 : decode cX13_stranger 59 = .ok (.getfield 46, 3) := by decide +kernel
theorem dX13_stranger_62 : decode cX13_stranger 62 = .ok (.iload_n 1, 1) := by decide +kernel
theorem dX13_stranger_63 : decode cX13_stranger 63 = .ok (.iaload, 1) := by decide +kernel
theorem dX13_stranger_64 : decode cX13_stranger 64 = .ok (.ireturn, 1) := by decide +kernel
theorem dX13_stranger_65 : decode cX13_stranger 65 = .ok (.aload_n 0, 1) := by decide +kernel
theorem dX13_stranger_66 : decode cX13_stranger 66 = .ok (.getfield 28, 3) := by decide +kernel
theorem dX13_stranger_69 : decode cX13_stranger 69 = .ok (.iload_n 1, 1) := by decide +kernel
theorem dX13_stranger_70 : decode cX13_stranger 70 = .ok (.iaload, 1) := by decide +kernel
theorem dX13_stranger_71 : decode cX13_stranger 71 = .ok (.ireturn, 1) := by decide +kernel
theorem dX13_stranger_72 : decode cX13_stranger 72 = .ok (.bipush (-2), 2) := by decide +kernel
theorem dX13_stranger_74 : decode cX13_stranger 74 = .ok (.ireturn, 1) := by decide +kernel
theorem dX13_streets_0 : decode cX13_streets 0 = .ok (.aload_n 0, 1) := by decide +kernel
theorem dX13_streets_1 : decode cX13_streets 1 = .ok (.iload_n 1, 1) := by decide +kernel
theorem dX13_streets_2 : decode cX13_streets 2 = .ok (.invokevirtual 371, 3) := by decide +kernel
theorem dX13_streets_5 : decode cX13_streets 5 = .ok (.ifCond .eq 12, 3) := by decide +kernel
theorem dX13_streets_8 : decode cX13_streets 8 = .ok (.aload_n 0, 1) := by decide +kernel
theorem dX13_streets_9 : decode cX13_streets 9 = .ok (.getfield 34, 3) := by decide +kernel
theorem dX13_streets_12 : decode cX13_streets 12 = .ok (.iload_n 1, 1) := by decide +kernel
theorem dX13_streets_13 : decode cX13_streets 13 = .ok (.iaload, 1) := by decide +kernel
theorem dX13_streets_14 : decode cX13_streets 14 = .ok (.goto 4, 3) := by decide +kernel
theorem dX13_streets_17 : decode cX13_streets 17 = .ok (.iconst (-1), 1) := by decide +kernel
theorem dX13_streets_18 : decode cX13_streets 18 = .ok (.ireturn, 1) := by decide +kernel
theorem dX13_before_0 : decode cX13_before 0 = .ok (.aload_n 0, 1) := by decide +kernel
theorem dX13_before_1 : decode cX13_before 1 = .ok (.iload_n 1, 1) := by decide +kernel
theorem dX13_before_2 : decode cX13_before 2 = .ok (.invokevirtual 368, 3) := by decide +kernel
theorem dX13_before_5 : decode cX13_before 5 = .ok (.ifCond .eq 25, 3) := by decide +kernel
theorem dX13_before_8 : decode cX13_before 8 = .ok (.aload_n 0, 1) := by decide +kernel
theorem dX13_before_9 : decode cX13_before 9 = .ok (.iload_n 2, 1) := by decide +kernel
theorem dX13_before_10 : decode cX13_before 10 = .ok (.invokevirtual 364, 3) := by decide +kernel
theorem dX13_before_13 : decode cX13_before 13 = .ok (.ifCond .eq 17, 3) := by decide +kernel
theorem dX13_before_16 : decode cX13_before 16 = .ok (.aload_n 0, 1) := by decide +kernel
theorem dX13_before_17 : decode cX13_before 17 = .ok (.getfield 31, 3) := by decide +kernel
theorem dX13_before_20 : decode cX13_before 20 = .ok (.bipush 6, 2) := by decide +kernel
theorem dX13_before_22 : decode cX13_before 22 = .ok (.iload_n 1, 1) := by decide +kernel
theorem dX13_before_23 : decode cX13_before 23 = .ok (.imul, 1) := by decide +kernel
theorem dX13_before_24 : decode cX13_before 24 = .ok (.iload_n 2, 1) := by decide +kernel
theorem dX13_before_25 : decode cX13_before 25 = .ok (.iadd, 1) := by decide +kernel
theorem dX13_before_26 : decode cX13_before 26 = .ok (.iaload, 1) := by decide +kernel
theorem dX13_before_27 : decode cX13_before 27 = .ok (.goto 4, 3) := by decide +kernel
theorem dX13_before_30 : decode cX13_before 30 = .ok (.iconst (-1), 1) := by decide +kernel
theorem dX13_before_31 : decode cX13_before 31 = .ok (.ireturn, 1) := by decide +kernel
theorem dX13_farFrom_0 : decode cX13_farFrom 0 = .ok (.iconst 1, 1) := by decide +kernel
theorem dX13_farFrom_1 : decode cX13_farFrom 1 = .ok (.iload_n 2, 1) := by decide +kernel
theorem dX13_farFrom_2 : decode cX13_farFrom 2 = .ok (.ishl, 1) := by decide +kernel
theorem dX13_farFrom_3 : decode cX13_farFrom 3 = .ok (.istore_n 3, 1) := by decide +kernel
theorem dX13_farFrom_4 : decode cX13_farFrom 4 = .ok (.iconst 0, 1) := by decide +kernel
theorem dX13_farFrom_5 : decode cX13_farFrom 5 = .ok (.istore 4, 2) := by decide +kernel
theorem dX13_farFrom_7 : decode cX13_farFrom 7 = .ok (.iload 4, 2) := by decide +kernel
theorem dX13_farFrom_9 : decode cX13_farFrom 9 = .ok (.bipush 8, 2) := by decide +kernel
theorem dX13_farFrom_11 : decode cX13_farFrom 11 = .ok (.if_icmp .ge 71, 3) := by decide +kernel
theorem dX13_farFrom_14 : decode cX13_farFrom 14 = .ok (.iload_n 3, 1) := by decide +kernel
theorem dX13_farFrom_15 : decode cX13_farFrom 15 = .ok (.iload_n 1, 1) := by decide +kernel
theorem dX13_farFrom_16 : decode cX13_farFrom 16 = .ok (.invokestatic 374, 3) := by decide +kernel
theorem dX13_farFrom_19 : decode cX13_farFrom 19 = .ok (.ifCond .eq 6, 3) := by decide +kernel
theorem dX13_farFrom_22 : decode cX13_farFrom 22 = .ok (.iload 4, 2) := by decide +kernel
theorem dX13_farFrom_24 : decode cX13_farFrom 24 = .ok (.ireturn, 1) := by decide +kernel
theorem dX13_farFrom_25 : decode cX13_farFrom 25 = .ok (.iload_n 3, 1) := by decide +kernel
theorem dX13_farFrom_26 : decode cX13_farFrom 26 = .ok (.istore 5, 2) := by decide +kernel
theorem dX13_farFrom_28 : decode cX13_farFrom 28 = .ok (.iconst 0, 1) := by decide +kernel
theorem dX13_farFrom_29 : decode cX13_farFrom 29 = .ok (.istore 6, 2) := by decide +kernel
theorem dX13_farFrom_31 : decode cX13_farFrom 31 = .ok (.iload 6, 2) := by decide +kernel
theorem dX13_farFrom_33 : decode cX13_farFrom 33 = .ok (.aload_n 0, 1) := by decide +kernel
theorem dX13_farFrom_34 : decode cX13_farFrom 34 = .ok (.getfield 9, 3) := by decide +kernel
theorem dX13_farFrom_37 : decode cX13_farFrom 37 = .ok (.iconst 0, 1) := by decide +kernel
theorem dX13_farFrom_38 : decode cX13_farFrom 38 = .ok (.iaload, 1) := by decide +kernel
theorem dX13_farFrom_39 : decode cX13_farFrom 39 = .ok (.if_icmp .ge 34, 3) := by decide +kernel
theorem dX13_farFrom_42 : decode cX13_farFrom 42 = .ok (.iload 5, 2) := by decide +kernel
theorem dX13_farFrom_44 : decode cX13_farFrom 44 = .ok (.iload_n 3, 1) := by decide +kernel
theorem dX13_farFrom_45 : decode cX13_farFrom 45 = .ok (.iload 6, 2) := by decide +kernel
theorem dX13_farFrom_47 : decode cX13_farFrom 47 = .ok (.invokestatic 374, 3) := by decide +kernel
theorem dX13_farFrom_50 : decode cX13_farFrom 50 = .ok (.ifCond .eq 13, 3) := by decide +kernel
theorem dX13_farFrom_53 : decode cX13_farFrom 53 = .ok (.aload_n 0, 1) := by decide +kernel
theorem dX13_farFrom_54 : decode cX13_farFrom 54 = .ok (.getfield 34, 3) := by decide +kernel
theorem dX13_farFrom_57 : decode cX13_farFrom 57 = .ok (.iload 6, 2) := by decide +kernel
theorem dX13_farFrom_59 : decode cX13_farFrom 59 = .ok (.iaload, 1) := by decide +kernel
theorem dX13_farFrom_60 : decode cX13_farFrom 60 = .ok (.goto 4, 3) := by decide +kernel
theorem dX13_farFrom_63 : decode cX13_farFrom 63 = .ok (.iconst 0, 1) := by decide +kernel
theorem dX13_farFrom_64 : decode cX13_farFrom 64 = .ok (.ior, 1) := by decide +kernel
theorem dX13_farFrom_65 : decode cX13_farFrom 65 = .ok (.istore 5, 2) := by decide +kernel
theorem dX13_farFrom_67 : decode cX13_farFrom 67 = .ok (.iinc 6 1, 3) := by decide +kernel
theorem dX13_farFrom_70 : decode cX13_farFrom 70 = .ok (.goto (-39), 3) := by decide +kernel
theorem dX13_farFrom_73 : decode cX13_farFrom 73 = .ok (.iload 5, 2) := by decide +kernel
theorem dX13_farFrom_75 : decode cX13_farFrom 75 = .ok (.istore_n 3, 1) := by decide +kernel
theorem dX13_farFrom_76 : decode cX13_farFrom 76 = .ok (.iinc 4 1, 3) := by decide +kernel
theorem dX13_farFrom_79 : decode cX13_farFrom 79 = .ok (.goto (-72), 3) := by decide +kernel
theorem dX13_farFrom_82 : decode cX13_farFrom 82 = .ok (.bipush 99, 2) := by decide +kernel
theorem dX13_farFrom_84 : decode cX13_farFrom 84 = .ok (.ireturn, 1) := by decide +kernel
theorem dX13_firstOn_0 : decode cX13_firstOn 0 = .ok (.aload_n 0, 1) := by decide +kernel
theorem dX13_firstOn_1 : decode cX13_firstOn 1 = .ok (.iload_n 1, 1) := by decide +kernel
theorem dX13_firstOn_2 : decode cX13_firstOn 2 = .ok (.iload_n 2, 1) := by decide +kernel
theorem dX13_firstOn_3 : decode cX13_firstOn 3 = .ok (.invokevirtual 377, 3) := by decide +kernel
theorem dX13_firstOn_6 : decode cX13_firstOn 6 = .ok (.istore_n 3, 1) := by decide +kernel
theorem dX13_firstOn_7 : decode cX13_firstOn 7 = .ok (.iconst 0, 1) := by decide +kernel
theorem dX13_firstOn_8 : decode cX13_firstOn 8 = .ok (.istore 4, 2) := by decide +kernel
theorem dX13_firstOn_10 : decode cX13_firstOn 10 = .ok (.iload 4, 2) := by decide +kernel
theorem dX13_firstOn_12 : decode cX13_firstOn 12 = .ok (.aload_n 0, 1) := by decide +kernel
theorem dX13_firstOn_13 : decode cX13_firstOn 13 = .ok (.getfield 9, 3) := by decide +kernel
theorem dX13_firstOn_16 : decode cX13_firstOn 16 = .ok (.iconst 0, 1) := by decide +kernel
theorem dX13_firstOn_17 : decode cX13_firstOn 17 = .ok (.iaload, 1) := by decide +kernel
theorem dX13_firstOn_18 : decode cX13_firstOn 18 = .ok (.if_icmp .ge 49, 3) := by decide +kernel
theorem dX13_firstOn_21 : decode cX13_firstOn 21 = .ok (.iload_n 3, 1) := by decide +kernel
theorem dX13_firstOn_22 : decode cX13_firstOn 22 = .ok (.ifCond .le 45, 3) := by decide +kernel
theorem dX13_firstOn_25 : decode cX13_firstOn 25 = .ok (.iload_n 3, 1) := by decide +kernel
theorem dX13_firstOn_26 : decode cX13_firstOn 26 = .ok (.bipush 99, 2) := by decide +kernel
theorem dX13_firstOn_28 : decode cX13_firstOn 28 = .ok (.if_icmp .ge 39, 3) := by decide +kernel
theorem dX13_firstOn_31 : decode cX13_firstOn 31 = .ok (.aload_n 0, 1) := by decide +kernel
theorem dX13_firstOn_32 : decode cX13_firstOn 32 = .ok (.getfield 34, 3) := by decide +kernel
theorem dX13_firstOn_35 : decode cX13_firstOn 35 = .ok (.iload_n 1, 1) := by decide +kernel
theorem dX13_firstOn_36 : decode cX13_firstOn 36 = .ok (.iaload, 1) := by decide +kernel
theorem dX13_firstOn_37 : decode cX13_firstOn 37 = .ok (.iload 4, 2) := by decide +kernel
theorem dX13_firstOn_39 : decode cX13_firstOn 39 = .ok (.invokestatic 374, 3) := by decide +kernel
theorem dX13_firstOn_42 : decode cX13_firstOn 42 = .ok (.ifCond .eq 19, 3) := by decide +kernel
theorem dX13_firstOn_45 : decode cX13_firstOn 45 = .ok (.aload_n 0, 1) := by decide +kernel
theorem dX13_firstOn_46 : decode cX13_firstOn 46 = .ok (.iload 4, 2) := by decide +kernel
theorem dX13_firstOn_48 : decode cX13_firstOn 48 = .ok (.iload_n 2, 1) := by decide +kernel
theorem dX13_firstOn_49 : decode cX13_firstOn 49 = .ok (.invokevirtual 377, 3) := by decide +kernel
theorem dX13_firstOn_52 : decode cX13_firstOn 52 = .ok (.iload_n 3, 1) := by decide +kernel
theorem dX13_firstOn_53 : decode cX13_firstOn 53 = .ok (.iconst 1, 1) := by decide +kernel
theorem dX13_firstOn_54 : decode cX13_firstOn 54 = .ok (.isub, 1) := by decide +kernel
theorem dX13_firstOn_55 : decode cX13_firstOn 55 = .ok (.if_icmp .ne 6, 3) := by decide +kernel
theorem dX13_firstOn_58 : decode cX13_firstOn 58 = .ok (.iload 4, 2) := by decide +kernel
theorem dX13_firstOn_60 : decode cX13_firstOn 60 = .ok (.ireturn, 1) := by decide +kernel
theorem dX13_firstOn_61 : decode cX13_firstOn 61 = .ok (.iinc 4 1, 3) := by decide +kernel
theorem dX13_firstOn_64 : decode cX13_firstOn 64 = .ok (.goto (-54), 3) := by decide +kernel
theorem dX13_firstOn_67 : decode cX13_firstOn 67 = .ok (.iload_n 1, 1) := by decide +kernel
theorem dX13_firstOn_68 : decode cX13_firstOn 68 = .ok (.ireturn, 1) := by decide +kernel
theorem dX13_leastBy_0 : decode cX13_leastBy 0 = .ok (.iconst 0, 1) := by decide +kernel
theorem dX13_leastBy_1 : decode cX13_leastBy 1 = .ok (.istore_n 2, 1) := by decide +kernel
theorem dX13_leastBy_2 : decode cX13_leastBy 2 = .ok (.iload_n 2, 1) := by decide +kernel
theorem dX13_leastBy_3 : decode cX13_leastBy 3 = .ok (.aload_n 0, 1) := by decide +kernel
theorem dX13_leastBy_4 : decode cX13_leastBy 4 = .ok (.getfield 9, 3) := by decide +kernel
theorem dX13_leastBy_7 : decode cX13_leastBy 7 = .ok (.iconst 0, 1) := by decide +kernel
theorem dX13_leastBy_8 : decode cX13_leastBy 8 = .ok (.iaload, 1) := by decide +kernel
theorem dX13_leastBy_9 : decode cX13_leastBy 9 = .ok (.if_icmp .ge 24, 3) := by decide +kernel
theorem dX13_leastBy_12 : decode cX13_leastBy 12 = .ok (.aload_n 0, 1) := by decide +kernel
theorem dX13_leastBy_13 : decode cX13_leastBy 13 = .ok (.getfield 34, 3) := by decide +kernel
theorem dX13_leastBy_16 : decode cX13_leastBy 16 = .ok (.iload_n 1, 1) := by decide +kernel
theorem dX13_leastBy_17 : decode cX13_leastBy 17 = .ok (.iaload, 1) := by decide +kernel
theorem dX13_leastBy_18 : decode cX13_leastBy 18 = .ok (.iload_n 2, 1) := by decide +kernel
theorem dX13_leastBy_19 : decode cX13_leastBy 19 = .ok (.invokestatic 374, 3) := by decide +kernel
theorem dX13_leastBy_22 : decode cX13_leastBy 22 = .ok (.ifCond .eq 5, 3) := by decide +kernel
theorem dX13_leastBy_25 : decode cX13_leastBy 25 = .ok (.iload_n 2, 1) := by decide +kernel
theorem dX13_leastBy_26 : decode cX13_leastBy 26 = .ok (.ireturn, 1) := by decide +kernel
theorem dX13_leastBy_27 : decode cX13_leastBy 27 = .ok (.iinc 2 1, 3) := by decide +kernel
theorem dX13_leastBy_30 : decode cX13_leastBy 30 = .ok (.goto (-28), 3) := by decide +kernel
theorem dX13_leastBy_33 : decode cX13_leastBy 33 = .ok (.iload_n 1, 1) := by decide +kernel
theorem dX13_leastBy_34 : decode cX13_leastBy 34 = .ok (.ireturn, 1) := by decide +kernel
theorem dX13_greatestBy_0 : decode cX13_greatestBy 0 = .ok (.iload_n 1, 1) := by decide +kernel
theorem dX13_greatestBy_1 : decode cX13_greatestBy 1 = .ok (.istore_n 2, 1) := by decide +kernel
theorem dX13_greatestBy_2 : decode cX13_greatestBy 2 = .ok (.iconst 0, 1) := by decide +kernel
theorem dX13_greatestBy_3 : decode cX13_greatestBy 3 = .ok (.istore_n 3, 1) := by decide +kernel
theorem dX13_greatestBy_4 : decode cX13_greatestBy 4 = .ok (.iload_n 3, 1) := by decide +kernel
theorem dX13_greatestBy_5 : decode cX13_greatestBy 5 = .ok (.aload_n 0, 1) := by decide +kernel
theorem dX13_greatestBy_6 : decode cX13_greatestBy 6 = .ok (.getfield 9, 3) := by decide +kernel
theorem dX13_greatestBy_9 : decode cX13_greatestBy 9 = .ok (.iconst 0, 1) := by decide +kernel
theorem dX13_greatestBy_10 : decode cX13_greatestBy 10 = .ok (.iaload, 1) := by decide +kernel
theorem dX13_greatestBy_11 : decode cX13_greatestBy 11 = .ok (.if_icmp .ge 28, 3) := by decide +kernel
theorem dX13_greatestBy_14 : decode cX13_greatestBy 14 = .ok (.aload_n 0, 1) := by decide +kernel
theorem dX13_greatestBy_15 : decode cX13_greatestBy 15 = .ok (.getfield 34, 3) := by decide +kernel
theorem dX13_greatestBy_18 : decode cX13_greatestBy 18 = .ok (.iload_n 1, 1) := by decide +kernel
theorem dX13_greatestBy_19 : decode cX13_greatestBy 19 = .ok (.iaload, 1) := by decide +kernel
theorem dX13_greatestBy_20 : decode cX13_greatestBy 20 = .ok (.iload_n 3, 1) := by decide +kernel
theorem dX13_greatestBy_21 : decode cX13_greatestBy 21 = .ok (.invokestatic 374, 3) := by decide +kernel
theorem dX13_greatestBy_24 : decode cX13_greatestBy 24 = .ok (.ifCond .eq 7, 3) := by decide +kernel
theorem dX13_greatestBy_27 : decode cX13_greatestBy 27 = .ok (.iload_n 3, 1) := by decide +kernel
theorem dX13_greatestBy_28 : decode cX13_greatestBy 28 = .ok (.goto 4, 3) := by decide +kernel
theorem dX13_greatestBy_31 : decode cX13_greatestBy 31 = .ok (.iload_n 2, 1) := by decide +kernel
theorem dX13_greatestBy_32 : decode cX13_greatestBy 32 = .ok (.istore_n 2, 1) := by decide +kernel
theorem dX13_greatestBy_33 : decode cX13_greatestBy 33 = .ok (.iinc 3 1, 3) := by decide +kernel
theorem dX13_greatestBy_36 : decode cX13_greatestBy 36 = .ok (.goto (-32), 3) := by decide +kernel
theorem dX13_greatestBy_39 : decode cX13_greatestBy 39 = .ok (.iload_n 2, 1) := by decide +kernel
theorem dX13_greatestBy_40 : decode cX13_greatestBy 40 = .ok (.ireturn, 1) := by decide +kernel
theorem dX13_allAsked_0 : decode cX13_allAsked 0 = .ok (.iconst 0, 1) := by decide +kernel
theorem dX13_allAsked_1 : decode cX13_allAsked 1 = .ok (.istore_n 1, 1) := by decide +kernel
theorem dX13_allAsked_2 : decode cX13_allAsked 2 = .ok (.iconst 0, 1) := by decide +kernel
theorem dX13_allAsked_3 : decode cX13_allAsked 3 = .ok (.istore_n 2, 1) := by decide +kernel
theorem dX13_allAsked_4 : decode cX13_allAsked 4 = .ok (.iload_n 2, 1) := by decide +kernel
theorem dX13_allAsked_5 : decode cX13_allAsked 5 = .ok (.aload_n 0, 1) := by decide +kernel
theorem dX13_allAsked_6 : decode cX13_allAsked 6 = .ok (.getfield 9, 3) := by decide +kernel
theorem dX13_allAsked_9 : decode cX13_allAsked 9 = .ok (.iconst 2, 1) := by decide +kernel
theorem dX13_allAsked_10 : decode cX13_allAsked 10 = .ok (.iaload, 1) := by decide +kernel
theorem dX13_allAsked_11 : decode cX13_allAsked 11 = .ok (.if_icmp .ge 18, 3) := by decide +kernel
theorem dX13_allAsked_14 : decode cX13_allAsked 14 = .ok (.iload_n 1, 1) := by decide +kernel
theorem dX13_allAsked_15 : decode cX13_allAsked 15 = .ok (.aload_n 0, 1) := by decide +kernel
theorem dX13_allAsked_16 : decode cX13_allAsked 16 = .ok (.getfield 22, 3) := by decide +kernel
theorem dX13_allAsked_19 : decode cX13_allAsked 19 = .ok (.iload_n 2, 1) := by decide +kernel
theorem dX13_allAsked_20 : decode cX13_allAsked 20 = .ok (.iaload, 1) := by decide +kernel
theorem dX13_allAsked_21 : decode cX13_allAsked 21 = .ok (.iadd, 1) := by decide +kernel
theorem dX13_allAsked_22 : decode cX13_allAsked 22 = .ok (.istore_n 1, 1) := by decide +kernel
theorem dX13_allAsked_23 : decode cX13_allAsked 23 = .ok (.iinc 2 1, 3) := by decide +kernel
theorem dX13_allAsked_26 : decode cX13_allAsked 26 = .ok (.goto (-22), 3) := by decide +kernel
theorem dX13_allAsked_29 : decode cX13_allAsked 29 = .ok (.iload_n 1, 1) := by decide +kernel
theorem dX13_allAsked_30 : decode cX13_allAsked 30 = .ok (.ireturn, 1) := by decide +kernel
theorem dX13_howManyAt_0 : decode cX13_howManyAt 0 = .ok (.iconst 0, 1) := by decide +kernel
theorem dX13_howManyAt_1 : decode cX13_howManyAt 1 = .ok (.istore_n 2, 1) := by decide +kernel
theorem dX13_howManyAt_2 : decode cX13_howManyAt 2 = .ok (.iconst 0, 1) := by decide +kernel
theorem dX13_howManyAt_3 : decode cX13_howManyAt 3 = .ok (.istore_n 3, 1) := by decide +kernel
theorem dX13_howManyAt_4 : decode cX13_howManyAt 4 = .ok (.iload_n 3, 1) := by decide +kernel
theorem dX13_howManyAt_5 : decode cX13_howManyAt 5 = .ok (.aload_n 0, 1) := by decide +kernel
theorem dX13_howManyAt_6 : decode cX13_howManyAt 6 = .ok (.getfield 9, 3) := by decide +kernel
theorem dX13_howManyAt_9 : decode cX13_howManyAt 9 = .ok (.iconst 2, 1) := by decide +kernel
theorem dX13_howManyAt_10 : decode cX13_howManyAt 10 = .ok (.iaload, 1) := by decide +kernel
theorem dX13_howManyAt_11 : decode cX13_howManyAt 11 = .ok (.if_icmp .ge 27, 3) := by decide +kernel
theorem dX13_howManyAt_14 : decode cX13_howManyAt 14 = .ok (.iload_n 2, 1) := by decide +kernel
theorem dX13_howManyAt_15 : decode cX13_howManyAt 15 = .ok (.aload_n 0, 1) := by decide +kernel
theorem dX13_howManyAt_16 : decode cX13_howManyAt 16 = .ok (.getfield 13, 3) := by decide +kernel
theorem dX13_howManyAt_19 : decode cX13_howManyAt 19 = .ok (.iload_n 3, 1) := by decide +kernel
theorem dX13_howManyAt_20 : decode cX13_howManyAt 20 = .ok (.iaload, 1) := by decide +kernel
theorem dX13_howManyAt_21 : decode cX13_howManyAt 21 = .ok (.iload_n 1, 1) := by decide +kernel
theorem dX13_howManyAt_22 : decode cX13_howManyAt 22 = .ok (.if_icmp .ne 7, 3) := by decide +kernel
theorem dX13_howManyAt_25 : decode cX13_howManyAt 25 = .ok (.iconst 1, 1) := by decide +kernel
theorem dX13_howManyAt_26 : decode cX13_howManyAt 26 = .ok (.goto 4, 3) := by decide +kernel
theorem dX13_howManyAt_29 : decode cX13_howManyAt 29 = .ok (.iconst 0, 1) := by decide +kernel
theorem dX13_howManyAt_30 : decode cX13_howManyAt 30 = .ok (.iadd, 1) := by decide +kernel
theorem dX13_howManyAt_31 : decode cX13_howManyAt 31 = .ok (.istore_n 2, 1) := by decide +kernel
theorem dX13_howManyAt_32 : decode cX13_howManyAt 32 = .ok (.iinc 3 1, 3) := by decide +kernel
theorem dX13_howManyAt_35 : decode cX13_howManyAt 35 = .ok (.goto (-31), 3) := by decide +kernel
theorem dX13_howManyAt_38 : decode cX13_howManyAt 38 = .ok (.iload_n 2, 1) := by decide +kernel
theorem dX13_howManyAt_39 : decode cX13_howManyAt 39 = .ok (.ireturn, 1) := by decide +kernel
theorem dX13_likes_0 : decode cX13_likes 0 = .ok (.aload_n 0, 1) := by decide +kernel
theorem dX13_likes_1 : decode cX13_likes 1 = .ok (.getfield 9, 3) := by decide +kernel
theorem dX13_likes_4 : decode cX13_likes 4 = .ok (.bipush 9, 2) := by decide +kernel
theorem dX13_likes_6 : decode cX13_likes 6 = .ok (.iaload, 1) := by decide +kernel
theorem dX13_likes_7 : decode cX13_likes 7 = .ok (.iconst (-1), 1) := by decide +kernel
theorem dX13_likes_8 : decode cX13_likes 8 = .ok (.if_icmp .ne 13, 3) := by decide +kernel
theorem dX13_likes_11 : decode cX13_likes 11 = .ok (.lconst 1, 1) := by decide +kernel
theorem dX13_likes_12 : decode cX13_likes 12 = .ok (.aload_n 0, 1) := by decide +kernel
theorem dX13_likes_13 : decode cX13_likes 13 = .ok (.getfield 16, 3) := by decide +kernel
theorem dX13_likes_16 : decode cX13_likes 16 = .ok (.iload_n 2, 1) := by decide +kernel
theorem dX13_likes_17 : decode cX13_likes 17 = .ok (.iaload, 1) := by decide +kernel
theorem dX13_likes_18 : decode cX13_likes 18 = .ok (.i2l, 1) := by decide +kernel
theorem dX13_likes_19 : decode cX13_likes 19 = .ok (.ladd, 1) := by decide +kernel
theorem dX13_likes_20 : decode cX13_likes 20 = .ok (.lreturn, 1) := by decide +kernel
theorem dX13_likes_21 : decode cX13_likes 21 = .ok (.aload_n 0, 1) := by decide +kernel
theorem dX13_likes_22 : decode cX13_likes 22 = .ok (.getfield 120, 3) := by decide +kernel
theorem dX13_likes_25 : decode cX13_likes 25 = .ok (.iconst 0, 1) := by decide +kernel
theorem dX13_likes_26 : decode cX13_likes 26 = .ok (.iload_n 1, 1) := by decide +kernel
theorem dX13_likes_27 : decode cX13_likes 27 = .ok (.i2l, 1) := by decide +kernel
theorem dX13_likes_28 : decode cX13_likes 28 = .ok (.lastore, 1) := by decide +kernel
theorem dX13_likes_29 : decode cX13_likes 29 = .ok (.aload_n 0, 1) := by decide +kernel
theorem dX13_likes_30 : decode cX13_likes 30 = .ok (.getfield 120, 3) := by decide +kernel
theorem dX13_likes_33 : decode cX13_likes 33 = .ok (.iconst 1, 1) := by decide +kernel
theorem dX13_likes_34 : decode cX13_likes 34 = .ok (.iload_n 2, 1) := by decide +kernel
theorem dX13_likes_35 : decode cX13_likes 35 = .ok (.i2l, 1) := by decide +kernel
theorem dX13_likes_36 : decode cX13_likes 36 = .ok (.lastore, 1) := by decide +kernel
theorem dX13_likes_37 : decode cX13_likes 37 = .ok (.aload_n 0, 1) := by decide +kernel
theorem dX13_likes_38 : decode cX13_likes 38 = .ok (.getfield 120, 3) := by decide +kernel
theorem dX13_likes_41 : decode cX13_likes 41 = .ok (.iconst 2, 1) := by decide +kernel
theorem dX13_likes_42 : decode cX13_likes 42 = .ok (.aload_n 0, 1) := by decide +kernel
theorem dX13_likes_43 : decode cX13_likes 43 = .ok (.getfield 16, 3) := by decide +kernel
theorem dX13_likes_46 : decode cX13_likes 46 = .ok (.iload_n 2, 1) := by decide +kernel
theorem dX13_likes_47 : decode cX13_likes 47 = .ok (.iaload, 1) := by decide +kernel
theorem dX13_likes_48 : decode cX13_likes 48 = .ok (.i2l, 1) := by decide +kernel
theorem dX13_likes_49 : decode cX13_likes 49 = .ok (.lastore, 1) := by decide +kernel
theorem dX13_likes_50 : decode cX13_likes 50 = .ok (.aload_n 0, 1) := by decide +kernel
theorem dX13_likes_51 : decode cX13_likes 51 = .ok (.getfield 120, 3) := by decide +kernel
theorem dX13_likes_54 : decode cX13_likes 54 = .ok (.iconst 3, 1) := by decide +kernel
theorem dX13_likes_55 : decode cX13_likes 55 = .ok (.aload_n 0, 1) := by decide +kernel
theorem dX13_likes_56 : decode cX13_likes 56 = .ok (.getfield 19, 3) := by decide +kernel
theorem dX13_likes_59 : decode cX13_likes 59 = .ok (.iload_n 2, 1) := by decide +kernel
theorem dX13_likes_60 : decode cX13_likes 60 = .ok (.iaload, 1) := by decide +kernel
theorem dX13_likes_61 : decode cX13_likes 61 = .ok (.i2l, 1) := by decide +kernel
theorem dX13_likes_62 : decode cX13_likes 62 = .ok (.lastore, 1) := by decide +kernel
theorem dX13_likes_63 : decode cX13_likes 63 = .ok (.aload_n 0, 1) := by decide +kernel
theorem dX13_likes_64 : decode cX13_likes 64 = .ok (.getfield 120, 3) := by decide +kernel
theorem dX13_likes_67 : decode cX13_likes 67 = .ok (.iconst 4, 1) := by decide +kernel
theorem dX13_likes_68 : decode cX13_likes 68 = .ok (.aload_n 0, 1) := by decide +kernel
theorem dX13_likes_69 : decode cX13_likes 69 = .ok (.getfield 31, 3) := by decide +kernel
theorem dX13_likes_72 : decode cX13_likes 72 = .ok (.bipush 6, 2) := by decide +kernel
theorem dX13_likes_74 : decode cX13_likes 74 = .ok (.iload_n 1, 1) := by decide +kernel
theorem dX13_likes_75 : decode cX13_likes 75 = .ok (.imul, 1) := by decide +kernel
theorem dX13_likes_76 : decode cX13_likes 76 = .ok (.iload_n 2, 1) := by decide +kernel
theorem dX13_likes_77 : decode cX13_likes 77 = .ok (.iadd, 1) := by decide +kernel
theorem dX13_likes_78 : decode cX13_likes 78 = .ok (.iaload, 1) := by decide +kernel
theorem dX13_likes_79 : decode cX13_likes 79 = .ok (.i2l, 1) := by decide +kernel
theorem dX13_likes_80 : decode cX13_likes 80 = .ok (.lastore, 1) := by decide +kernel
theorem dX13_likes_81 : decode cX13_likes 81 = .ok (.aload_n 0, 1) := by decide +kernel
theorem dX13_likes_82 : decode cX13_likes 82 = .ok (.getfield 120, 3) := by decide +kernel
theorem dX13_likes_85 : decode cX13_likes 85 = .ok (.iconst 5, 1) := by decide +kernel
theorem dX13_likes_86 : decode cX13_likes 86 = .ok (.aload_n 0, 1) := by decide +kernel
theorem dX13_likes_87 : decode cX13_likes 87 = .ok (.aload_n 0, 1) := by decide +kernel
theorem dX13_likes_88 : decode cX13_likes 88 = .ok (.getfield 28, 3) := by decide +kernel
theorem dX13_likes_91 : decode cX13_likes 91 = .ok (.iload_n 1, 1) := by decide +kernel
theorem dX13_likes_92 : decode cX13_likes 92 = .ok (.iaload, 1) := by decide +kernel
theorem dX13_likes_93 : decode cX13_likes 93 = .ok (.invokevirtual 380, 3) := by decide +kernel
theorem dX13_likes_96 : decode cX13_likes 96 = .ok (.iconst 1, 1) := by decide +kernel
theorem dX13_likes_97 : decode cX13_likes 97 = .ok (.isub, 1) := by decide +kernel
theorem dX13_likes_98 : decode cX13_likes 98 = .ok (.i2l, 1) := by decide +kernel
theorem dX13_likes_99 : decode cX13_likes 99 = .ok (.lastore, 1) := by decide +kernel
theorem dX13_likes_100 : decode cX13_likes 100 = .ok (.aload_n 0, 1) := by decide +kernel
theorem dX13_likes_101 : decode cX13_likes 101 = .ok (.getfield 120, 3) := by decide +kernel
theorem dX13_likes_104 : decode cX13_likes 104 = .ok (.bipush 6, 2) := by decide +kernel
