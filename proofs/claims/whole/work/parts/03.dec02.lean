theorem dX8_advance_19 : decode cX8_advance 19 = .ok (.aload_n 0, 1) := by decide +kernel
theorem dX8_advance_20 : decode cX8_advance 20 = .ok (.getfield 9, 3) := by decide +kernel
theorem dX8_advance_23 : decode cX8_advance 23 = .ok (.aload_n 0, 1) := by decide +kernel
theorem dX8_advance_24 : decode cX8_advance 24 = .ok (.getfield 28, 3) := by decide +kernel
theorem dX8_advance_27 : decode cX8_advance 27 = .ok (.iaload, 1) := by decide +kernel
theorem dX8_advance_28 : decode cX8_advance 28 = .ok (.bipush 32, 2) := by decide +kernel
theorem dX8_advance_30 : decode cX8_advance 30 = .ok (.if_icmp .ne 16, 3) := by decide +kernel
theorem dX8_advance_33 : decode cX8_advance 33 = .ok (.aload_n 0, 1) := by decide +kernel
theorem dX8_advance_34 : decode cX8_advance 34 = .ok (.dup, 1) := by decide +kernel
theorem dX8_advance_35 : decode cX8_advance 35 = .ok (.getfield 28, 3) := by decide +kernel
theorem dX8_advance_38 : decode cX8_advance 38 = .ok (.iconst 1, 1) := by decide +kernel
theorem dX8_advance_39 : decode cX8_advance 39 = .ok (.iadd, 1) := by decide +kernel
theorem dX8_advance_40 : decode cX8_advance 40 = .ok (.putfield 28, 3) := by decide +kernel
theorem dX8_advance_43 : decode cX8_advance 43 = .ok (.goto (-35), 3) := by decide +kernel
theorem dX8_advance_46 : decode cX8_advance 46 = .ok (.aload_n 0, 1) := by decide +kernel
theorem dX8_advance_47 : decode cX8_advance 47 = .ok (.aload_n 0, 1) := by decide +kernel
theorem dX8_advance_48 : decode cX8_advance 48 = .ok (.getfield 28, 3) := by decide +kernel
theorem dX8_advance_51 : decode cX8_advance 51 = .ok (.putfield 22, 3) := by decide +kernel
theorem dX8_advance_54 : decode cX8_advance 54 = .ok (.aload_n 0, 1) := by decide +kernel
theorem dX8_advance_55 : decode cX8_advance 55 = .ok (.aload_n 0, 1) := by decide +kernel
theorem dX8_advance_56 : decode cX8_advance 56 = .ok (.aload_n 0, 1) := by decide +kernel
theorem dX8_advance_57 : decode cX8_advance 57 = .ok (.getfield 28, 3) := by decide +kernel
theorem dX8_advance_60 : decode cX8_advance 60 = .ok (.invokevirtual 31, 3) := by decide +kernel
theorem dX8_advance_63 : decode cX8_advance 63 = .ok (.putfield 35, 3) := by decide +kernel
theorem dX8_advance_66 : decode cX8_advance 66 = .ok (.aload_n 0, 1) := by decide +kernel
theorem dX8_advance_67 : decode cX8_advance 67 = .ok (.getfield 35, 3) := by decide +kernel
theorem dX8_advance_70 : decode cX8_advance 70 = .ok (.iconst 3, 1) := by decide +kernel
theorem dX8_advance_71 : decode cX8_advance 71 = .ok (.if_icmp .ne 25, 3) := by decide +kernel
theorem dX8_advance_74 : decode cX8_advance 74 = .ok (.aload_n 0, 1) := by decide +kernel
theorem dX8_advance_75 : decode cX8_advance 75 = .ok (.aload_n 0, 1) := by decide +kernel
theorem dX8_advance_76 : decode cX8_advance 76 = .ok (.getfield 28, 3) := by decide +kernel
theorem dX8_advance_79 : decode cX8_advance 79 = .ok (.aload_n 0, 1) := by decide +kernel
theorem dX8_advance_80 : decode cX8_advance 80 = .ok (.invokevirtual 38, 3) := by decide +kernel
theorem dX8_advance_83 : decode cX8_advance 83 = .ok (.ifCond .eq 7, 3) := by decide +kernel
theorem dX8_advance_86 : decode cX8_advance 86 = .ok (.iconst 2, 1) := by decide +kernel
theorem dX8_advance_87 : decode cX8_advance 87 = .ok (.goto 4, 3) := by decide +kernel
theorem dX8_advance_90 : decode cX8_advance 90 = .ok (.iconst 1, 1) := by decide +kernel
theorem dX8_advance_91 : decode cX8_advance 91 = .ok (.iadd, 1) := by decide +kernel
theorem dX8_advance_92 : decode cX8_advance 92 = .ok (.putfield 22, 3) := by decide +kernel
theorem dX8_advance_95 : decode cX8_advance 95 = .ok (.return_, 1) := by decide +kernel
theorem dX8_advance_96 : decode cX8_advance 96 = .ok (.aload_n 0, 1) := by decide +kernel
theorem dX8_advance_97 : decode cX8_advance 97 = .ok (.getfield 35, 3) := by decide +kernel
theorem dX8_advance_100 : decode cX8_advance 100 = .ok (.ifCond .eq 42, 3) := by decide +kernel
theorem dX8_advance_103 : decode cX8_advance 103 = .ok (.aload_n 0, 1) := by decide +kernel
theorem dX8_advance_104 : decode cX8_advance 104 = .ok (.getfield 22, 3) := by decide +kernel
theorem dX8_advance_107 : decode cX8_advance 107 = .ok (.aload_n 0, 1) := by decide +kernel
theorem dX8_advance_108 : decode cX8_advance 108 = .ok (.getfield 15, 3) := by decide +kernel
theorem dX8_advance_111 : decode cX8_advance 111 = .ok (.if_icmp .ge 31, 3) := by decide +kernel
theorem dX8_advance_114 : decode cX8_advance 114 = .ok (.aload_n 0, 1) := by decide +kernel
theorem dX8_advance_115 : decode cX8_advance 115 = .ok (.aload_n 0, 1) := by decide +kernel
theorem dX8_advance_116 : decode cX8_advance 116 = .ok (.getfield 22, 3) := by decide +kernel
theorem dX8_advance_119 : decode cX8_advance 119 = .ok (.invokevirtual 31, 3) := by decide +kernel
theorem dX8_advance_122 : decode cX8_advance 122 = .ok (.aload_n 0, 1) := by decide +kernel
theorem dX8_advance_123 : decode cX8_advance 123 = .ok (.getfield 35, 3) := by decide +kernel
theorem dX8_advance_126 : decode cX8_advance 126 = .ok (.if_icmp .ne 16, 3) := by decide +kernel
theorem dX8_advance_129 : decode cX8_advance 129 = .ok (.aload_n 0, 1) := by decide +kernel
theorem dX8_advance_130 : decode cX8_advance 130 = .ok (.dup, 1) := by decide +kernel
theorem dX8_advance_131 : decode cX8_advance 131 = .ok (.getfield 22, 3) := by decide +kernel
theorem dX8_advance_134 : decode cX8_advance 134 = .ok (.iconst 1, 1) := by decide +kernel
theorem dX8_advance_135 : decode cX8_advance 135 = .ok (.iadd, 1) := by decide +kernel
theorem dX8_advance_136 : decode cX8_advance 136 = .ok (.putfield 22, 3) := by decide +kernel
theorem dX8_advance_139 : decode cX8_advance 139 = .ok (.goto (-43), 3) := by decide +kernel
theorem dX8_advance_142 : decode cX8_advance 142 = .ok (.return_, 1) := by decide +kernel
theorem dX8_kindAt_0 : decode cX8_kindAt 0 = .ok (.iload_n 1, 1) := by decide +kernel
theorem dX8_kindAt_1 : decode cX8_kindAt 1 = .ok (.aload_n 0, 1) := by decide +kernel
theorem dX8_kindAt_2 : decode cX8_kindAt 2 = .ok (.getfield 15, 3) := by decide +kernel
theorem dX8_kindAt_5 : decode cX8_kindAt 5 = .ok (.if_icmp .lt 5, 3) := by decide +kernel
theorem dX8_kindAt_8 : decode cX8_kindAt 8 = .ok (.iconst 0, 1) := by decide +kernel
theorem dX8_kindAt_9 : decode cX8_kindAt 9 = .ok (.ireturn, 1) := by decide +kernel
theorem dX8_kindAt_10 : decode cX8_kindAt 10 = .ok (.aload_n 0, 1) := by decide +kernel
theorem dX8_kindAt_11 : decode cX8_kindAt 11 = .ok (.getfield 9, 3) := by decide +kernel
theorem dX8_kindAt_14 : decode cX8_kindAt 14 = .ok (.iload_n 1, 1) := by decide +kernel
theorem dX8_kindAt_15 : decode cX8_kindAt 15 = .ok (.iaload, 1) := by decide +kernel
theorem dX8_kindAt_16 : decode cX8_kindAt 16 = .ok (.istore_n 2, 1) := by decide +kernel
theorem dX8_kindAt_17 : decode cX8_kindAt 17 = .ok (.iload_n 2, 1) := by decide +kernel
theorem dX8_kindAt_18 : decode cX8_kindAt 18 = .ok (.bipush 97, 2) := by decide +kernel
theorem dX8_kindAt_20 : decode cX8_kindAt 20 = .ok (.if_icmp .lt 11, 3) := by decide +kernel
theorem dX8_kindAt_23 : decode cX8_kindAt 23 = .ok (.iload_n 2, 1) := by decide +kernel
theorem dX8_kindAt_24 : decode cX8_kindAt 24 = .ok (.bipush 122, 2) := by decide +kernel
theorem dX8_kindAt_26 : decode cX8_kindAt 26 = .ok (.if_icmp .gt 5, 3) := by decide +kernel
theorem dX8_kindAt_29 : decode cX8_kindAt 29 = .ok (.iconst 1, 1) := by decide +kernel
theorem dX8_kindAt_30 : decode cX8_kindAt 30 = .ok (.ireturn, 1) := by decide +kernel
theorem dX8_kindAt_31 : decode cX8_kindAt 31 = .ok (.iload_n 2, 1) := by decide +kernel
theorem dX8_kindAt_32 : decode cX8_kindAt 32 = .ok (.bipush 48, 2) := by decide +kernel
theorem dX8_kindAt_34 : decode cX8_kindAt 34 = .ok (.if_icmp .lt 13, 3) := by decide +kernel
theorem dX8_kindAt_37 : decode cX8_kindAt 37 = .ok (.iload_n 2, 1) := by decide +kernel
theorem dX8_kindAt_38 : decode cX8_kindAt 38 = .ok (.bipush 57, 2) := by decide +kernel
theorem dX8_kindAt_40 : decode cX8_kindAt 40 = .ok (.if_icmp .gt 7, 3) := by decide +kernel
theorem dX8_kindAt_43 : decode cX8_kindAt 43 = .ok (.iconst 2, 1) := by decide +kernel
theorem dX8_kindAt_44 : decode cX8_kindAt 44 = .ok (.goto 4, 3) := by decide +kernel
theorem dX8_kindAt_47 : decode cX8_kindAt 47 = .ok (.iconst 3, 1) := by decide +kernel
theorem dX8_kindAt_48 : decode cX8_kindAt 48 = .ok (.ireturn, 1) := by decide +kernel
theorem dX8_joinsEqual_0 : decode cX8_joinsEqual 0 = .ok (.aload_n 0, 1) := by decide +kernel
theorem dX8_joinsEqual_1 : decode cX8_joinsEqual 1 = .ok (.getfield 9, 3) := by decide +kernel
theorem dX8_joinsEqual_4 : decode cX8_joinsEqual 4 = .ok (.aload_n 0, 1) := by decide +kernel
theorem dX8_joinsEqual_5 : decode cX8_joinsEqual 5 = .ok (.getfield 28, 3) := by decide +kernel
theorem dX8_joinsEqual_8 : decode cX8_joinsEqual 8 = .ok (.iaload, 1) := by decide +kernel
theorem dX8_joinsEqual_9 : decode cX8_joinsEqual 9 = .ok (.bipush 60, 2) := by decide +kernel
theorem dX8_joinsEqual_11 : decode cX8_joinsEqual 11 = .ok (.if_icmp .eq 17, 3) := by decide +kernel
theorem dX8_joinsEqual_14 : decode cX8_joinsEqual 14 = .ok (.aload_n 0, 1) := by decide +kernel
theorem dX8_joinsEqual_15 : decode cX8_joinsEqual 15 = .ok (.getfield 9, 3) := by decide +kernel
theorem dX8_joinsEqual_18 : decode cX8_joinsEqual 18 = .ok (.aload_n 0, 1) := by decide +kernel
theorem dX8_joinsEqual_19 : decode cX8_joinsEqual 19 = .ok (.getfield 28, 3) := by decide +kernel
theorem dX8_joinsEqual_22 : decode cX8_joinsEqual 22 = .ok (.iaload, 1) := by decide +kernel
theorem dX8_joinsEqual_23 : decode cX8_joinsEqual 23 = .ok (.bipush 62, 2) := by decide +kernel
theorem dX8_joinsEqual_25 : decode cX8_joinsEqual 25 = .ok (.if_icmp .ne 7, 3) := by decide +kernel
theorem dX8_joinsEqual_28 : decode cX8_joinsEqual 28 = .ok (.iconst 1, 1) := by decide +kernel
theorem dX8_joinsEqual_29 : decode cX8_joinsEqual 29 = .ok (.goto 4, 3) := by decide +kernel
theorem dX8_joinsEqual_32 : decode cX8_joinsEqual 32 = .ok (.iconst 0, 1) := by decide +kernel
theorem dX8_joinsEqual_33 : decode cX8_joinsEqual 33 = .ok (.istore_n 1, 1) := by decide +kernel
theorem dX8_joinsEqual_34 : decode cX8_joinsEqual 34 = .ok (.iload_n 1, 1) := by decide +kernel
theorem dX8_joinsEqual_35 : decode cX8_joinsEqual 35 = .ok (.ifCond .eq 36, 3) := by decide +kernel
theorem dX8_joinsEqual_38 : decode cX8_joinsEqual 38 = .ok (.aload_n 0, 1) := by decide +kernel
theorem dX8_joinsEqual_39 : decode cX8_joinsEqual 39 = .ok (.getfield 28, 3) := by decide +kernel
theorem dX8_joinsEqual_42 : decode cX8_joinsEqual 42 = .ok (.iconst 1, 1) := by decide +kernel
theorem dX8_joinsEqual_43 : decode cX8_joinsEqual 43 = .ok (.iadd, 1) := by decide +kernel
theorem dX8_joinsEqual_44 : decode cX8_joinsEqual 44 = .ok (.aload_n 0, 1) := by decide +kernel
theorem dX8_joinsEqual_45 : decode cX8_joinsEqual 45 = .ok (.getfield 15, 3) := by decide +kernel
theorem dX8_joinsEqual_48 : decode cX8_joinsEqual 48 = .ok (.if_icmp .ge 23, 3) := by decide +kernel
theorem dX8_joinsEqual_51 : decode cX8_joinsEqual 51 = .ok (.aload_n 0, 1) := by decide +kernel
theorem dX8_joinsEqual_52 : decode cX8_joinsEqual 52 = .ok (.getfield 9, 3) := by decide +kernel
theorem dX8_joinsEqual_55 : decode cX8_joinsEqual 55 = .ok (.aload_n 0, 1) := by decide +kernel
theorem dX8_joinsEqual_56 : decode cX8_joinsEqual 56 = .ok (.getfield 28, 3) := by decide +kernel
theorem dX8_joinsEqual_59 : decode cX8_joinsEqual 59 = .ok (.iconst 1, 1) := by decide +kernel
theorem dX8_joinsEqual_60 : decode cX8_joinsEqual 60 = .ok (.iadd, 1) := by decide +kernel
theorem dX8_joinsEqual_61 : decode cX8_joinsEqual 61 = .ok (.iaload, 1) := by decide +kernel
theorem dX8_joinsEqual_62 : decode cX8_joinsEqual 62 = .ok (.bipush 61, 2) := by decide +kernel
theorem dX8_joinsEqual_64 : decode cX8_joinsEqual 64 = .ok (.if_icmp .ne 7, 3) := by decide +kernel
theorem dX8_joinsEqual_67 : decode cX8_joinsEqual 67 = .ok (.iconst 1, 1) := by decide +kernel
theorem dX8_joinsEqual_68 : decode cX8_joinsEqual 68 = .ok (.goto 4, 3) := by decide +kernel
theorem dX8_joinsEqual_71 : decode cX8_joinsEqual 71 = .ok (.iconst 0, 1) := by decide +kernel
theorem dX8_joinsEqual_72 : decode cX8_joinsEqual 72 = .ok (.ireturn, 1) := by decide +kernel
theorem dX8_signAmong_0 : decode cX8_signAmong 0 = .ok (.aload_n 0, 1) := by decide +kernel
theorem dX8_signAmong_1 : decode cX8_signAmong 1 = .ok (.getfield 35, 3) := by decide +kernel
theorem dX8_signAmong_4 : decode cX8_signAmong 4 = .ok (.iconst 3, 1) := by decide +kernel
theorem dX8_signAmong_5 : decode cX8_signAmong 5 = .ok (.if_icmp .ne 20, 3) := by decide +kernel
theorem dX8_signAmong_8 : decode cX8_signAmong 8 = .ok (.aload_n 1, 1) := by decide +kernel
theorem dX8_signAmong_9 : decode cX8_signAmong 9 = .ok (.aload_n 0, 1) := by decide +kernel
theorem dX8_signAmong_10 : decode cX8_signAmong 10 = .ok (.getfield 9, 3) := by decide +kernel
theorem dX8_signAmong_13 : decode cX8_signAmong 13 = .ok (.aload_n 0, 1) := by decide +kernel
theorem dX8_signAmong_14 : decode cX8_signAmong 14 = .ok (.getfield 28, 3) := by decide +kernel
theorem dX8_signAmong_17 : decode cX8_signAmong 17 = .ok (.iaload, 1) := by decide +kernel
theorem dX8_signAmong_18 : decode cX8_signAmong 18 = .ok (.i2c, 1) := by decide +kernel
theorem dX8_signAmong_19 : decode cX8_signAmong 19 = .ok (.invokevirtual 42, 3) := by decide +kernel
theorem dX8_signAmong_22 : decode cX8_signAmong 22 = .ok (.ifCond .ge 5, 3) := by decide +kernel
theorem dX8_signAmong_25 : decode cX8_signAmong 25 = .ok (.iconst (-1), 1) := by decide +kernel
theorem dX8_signAmong_26 : decode cX8_signAmong 26 = .ok (.ireturn, 1) := by decide +kernel
theorem dX8_signAmong_27 : decode cX8_signAmong 27 = .ok (.aload_n 0, 1) := by decide +kernel
theorem dX8_signAmong_28 : decode cX8_signAmong 28 = .ok (.getfield 9, 3) := by decide +kernel
theorem dX8_signAmong_31 : decode cX8_signAmong 31 = .ok (.aload_n 0, 1) := by decide +kernel
theorem dX8_signAmong_32 : decode cX8_signAmong 32 = .ok (.getfield 28, 3) := by decide +kernel
theorem dX8_signAmong_35 : decode cX8_signAmong 35 = .ok (.iaload, 1) := by decide +kernel
theorem dX8_signAmong_36 : decode cX8_signAmong 36 = .ok (.aload_n 0, 1) := by decide +kernel
theorem dX8_signAmong_37 : decode cX8_signAmong 37 = .ok (.getfield 22, 3) := by decide +kernel
theorem dX8_signAmong_40 : decode cX8_signAmong 40 = .ok (.aload_n 0, 1) := by decide +kernel
theorem dX8_signAmong_41 : decode cX8_signAmong 41 = .ok (.getfield 28, 3) := by decide +kernel
theorem dX8_signAmong_44 : decode cX8_signAmong 44 = .ok (.isub, 1) := by decide +kernel
theorem dX8_signAmong_45 : decode cX8_signAmong 45 = .ok (.iconst 2, 1) := by decide +kernel
theorem dX8_signAmong_46 : decode cX8_signAmong 46 = .ok (.if_icmp .ne 9, 3) := by decide +kernel
theorem dX8_signAmong_49 : decode cX8_signAmong 49 = .ok (.sipush 256, 3) := by decide +kernel
theorem dX8_signAmong_52 : decode cX8_signAmong 52 = .ok (.goto 4, 3) := by decide +kernel
theorem dX8_signAmong_55 : decode cX8_signAmong 55 = .ok (.iconst 0, 1) := by decide +kernel
theorem dX8_signAmong_56 : decode cX8_signAmong 56 = .ok (.iadd, 1) := by decide +kernel
theorem dX8_signAmong_57 : decode cX8_signAmong 57 = .ok (.ireturn, 1) := by decide +kernel
theorem dX8_wordAmong_0 : decode cX8_wordAmong 0 = .ok (.aload_n 0, 1) := by decide +kernel
theorem dX8_wordAmong_1 : decode cX8_wordAmong 1 = .ok (.getfield 35, 3) := by decide +kernel
theorem dX8_wordAmong_4 : decode cX8_wordAmong 4 = .ok (.iconst 1, 1) := by decide +kernel
theorem dX8_wordAmong_5 : decode cX8_wordAmong 5 = .ok (.if_icmp .eq 5, 3) := by decide +kernel
theorem dX8_wordAmong_8 : decode cX8_wordAmong 8 = .ok (.iconst (-1), 1) := by decide +kernel
theorem dX8_wordAmong_9 : decode cX8_wordAmong 9 = .ok (.ireturn, 1) := by decide +kernel
theorem dX8_wordAmong_10 : decode cX8_wordAmong 10 = .ok (.iconst 0, 1) := by decide +kernel
theorem dX8_wordAmong_11 : decode cX8_wordAmong 11 = .ok (.istore_n 2, 1) := by decide +kernel
theorem dX8_wordAmong_12 : decode cX8_wordAmong 12 = .ok (.aload_n 0, 1) := by decide +kernel
theorem dX8_wordAmong_13 : decode cX8_wordAmong 13 = .ok (.getfield 28, 3) := by decide +kernel
theorem dX8_wordAmong_16 : decode cX8_wordAmong 16 = .ok (.istore_n 3, 1) := by decide +kernel
theorem dX8_wordAmong_17 : decode cX8_wordAmong 17 = .ok (.iconst 1, 1) := by decide +kernel
theorem dX8_wordAmong_18 : decode cX8_wordAmong 18 = .ok (.istore 4, 2) := by decide +kernel
theorem dX8_wordAmong_20 : decode cX8_wordAmong 20 = .ok (.iconst 0, 1) := by decide +kernel
theorem dX8_wordAmong_21 : decode cX8_wordAmong 21 = .ok (.istore 5, 2) := by decide +kernel
theorem dX8_wordAmong_23 : decode cX8_wordAmong 23 = .ok (.iload 5, 2) := by decide +kernel
theorem dX8_wordAmong_25 : decode cX8_wordAmong 25 = .ok (.aload_n 1, 1) := by decide +kernel
theorem dX8_wordAmong_26 : decode cX8_wordAmong 26 = .ok (.invokevirtual 47, 3) := by decide +kernel
theorem dX8_wordAmong_29 : decode cX8_wordAmong 29 = .ok (.if_icmp .ge 87, 3) := by decide +kernel
theorem dX8_wordAmong_32 : decode cX8_wordAmong 32 = .ok (.aload_n 1, 1) := by decide +kernel
theorem dX8_wordAmong_33 : decode cX8_wordAmong 33 = .ok (.iload 5, 2) := by decide +kernel
theorem dX8_wordAmong_35 : decode cX8_wordAmong 35 = .ok (.invokevirtual 50, 3) := by decide +kernel
theorem dX8_wordAmong_38 : decode cX8_wordAmong 38 = .ok (.istore 6, 2) := by decide +kernel
theorem dX8_wordAmong_40 : decode cX8_wordAmong 40 = .ok (.iload 6, 2) := by decide +kernel
theorem dX8_wordAmong_42 : decode cX8_wordAmong 42 = .ok (.bipush 32, 2) := by decide +kernel
theorem dX8_wordAmong_44 : decode cX8_wordAmong 44 = .ok (.if_icmp .eq 40, 3) := by decide +kernel
theorem dX8_wordAmong_47 : decode cX8_wordAmong 47 = .ok (.iload 4, 2) := by decide +kernel
theorem dX8_wordAmong_49 : decode cX8_wordAmong 49 = .ok (.ifCond .eq 26, 3) := by decide +kernel
theorem dX8_wordAmong_52 : decode cX8_wordAmong 52 = .ok (.iload_n 3, 1) := by decide +kernel
theorem dX8_wordAmong_53 : decode cX8_wordAmong 53 = .ok (.aload_n 0, 1) := by decide +kernel
theorem dX8_wordAmong_54 : decode cX8_wordAmong 54 = .ok (.getfield 22, 3) := by decide +kernel
theorem dX8_wordAmong_57 : decode cX8_wordAmong 57 = .ok (.if_icmp .ge 18, 3) := by decide +kernel
theorem dX8_wordAmong_60 : decode cX8_wordAmong 60 = .ok (.aload_n 0, 1) := by decide +kernel
theorem dX8_wordAmong_61 : decode cX8_wordAmong 61 = .ok (.getfield 9, 3) := by decide +kernel
theorem dX8_wordAmong_64 : decode cX8_wordAmong 64 = .ok (.iload_n 3, 1) := by decide +kernel
theorem dX8_wordAmong_65 : decode cX8_wordAmong 65 = .ok (.iaload, 1) := by decide +kernel
theorem dX8_wordAmong_66 : decode cX8_wordAmong 66 = .ok (.iload 6, 2) := by decide +kernel
theorem dX8_wordAmong_68 : decode cX8_wordAmong 68 = .ok (.if_icmp .ne 7, 3) := by decide +kernel
theorem dX8_wordAmong_71 : decode cX8_wordAmong 71 = .ok (.iconst 1, 1) := by decide +kernel
theorem dX8_wordAmong_72 : decode cX8_wordAmong 72 = .ok (.goto 4, 3) := by decide +kernel
theorem dX8_wordAmong_75 : decode cX8_wordAmong 75 = .ok (.iconst 0, 1) := by decide +kernel
theorem dX8_wordAmong_76 : decode cX8_wordAmong 76 = .ok (.istore 4, 2) := by decide +kernel
theorem dX8_wordAmong_78 : decode cX8_wordAmong 78 = .ok (.iinc 3 1, 3) := by decide +kernel
theorem dX8_wordAmong_81 : decode cX8_wordAmong 81 = .ok (.goto 29, 3) := by decide +kernel
theorem dX8_wordAmong_84 : decode cX8_wordAmong 84 = .ok (.iload 4, 2) := by decide +kernel
theorem dX8_wordAmong_86 : decode cX8_wordAmong 86 = .ok (.ifCond .eq 13, 3) := by decide +kernel
theorem dX8_wordAmong_89 : decode cX8_wordAmong 89 = .ok (.iload_n 3, 1) := by decide +kernel
theorem dX8_wordAmong_90 : decode cX8_wordAmong 90 = .ok (.aload_n 0, 1) := by decide +kernel
theorem dX8_wordAmong_91 : decode cX8_wordAmong 91 = .ok (.getfield 22, 3) := by decide +kernel
theorem dX8_wordAmong_94 : decode cX8_wordAmong 94 = .ok (.if_icmp .ne 5, 3) := by decide +kernel
theorem dX8_wordAmong_97 : decode cX8_wordAmong 97 = .ok (.iload_n 2, 1) := by decide +kernel
theorem dX8_wordAmong_98 : decode cX8_wordAmong 98 = .ok (.ireturn, 1) := by decide +kernel
theorem dX8_wordAmong_99 : decode cX8_wordAmong 99 = .ok (.iinc 2 1, 3) := by decide +kernel
theorem dX8_wordAmong_102 : decode cX8_wordAmong 102 = .ok (.aload_n 0, 1) := by decide +kernel
theorem dX8_wordAmong_103 : decode cX8_wordAmong 103 = .ok (.getfield 28, 3) := by decide +kernel
theorem dX8_wordAmong_106 : decode cX8_wordAmong 106 = .ok (.istore_n 3, 1) := by decide +kernel
theorem dX8_wordAmong_107 : decode cX8_wordAmong 107 = .ok (.iconst 1, 1) := by decide +kernel
theorem dX8_wordAmong_108 : decode cX8_wordAmong 108 = .ok (.istore 4, 2) := by decide +kernel
theorem dX8_wordAmong_110 : decode cX8_wordAmong 110 = .ok (.iinc 5 1, 3) := by decide +kernel
theorem dX8_wordAmong_113 : decode cX8_wordAmong 113 = .ok (.goto (-90), 3) := by decide +kernel
theorem dX8_wordAmong_116 : decode cX8_wordAmong 116 = .ok (.iconst (-1), 1) := by decide +kernel
theorem dX8_wordAmong_117 : decode cX8_wordAmong 117 = .ok (.ireturn, 1) := by decide +kernel
theorem dX8_numberHere_0 : decode cX8_numberHere 0 = .ok (.aload_n 0, 1) := by decide +kernel
theorem dX8_numberHere_1 : decode cX8_numberHere 1 = .ok (.getfield 35, 3) := by decide +kernel
theorem dX8_numberHere_4 : decode cX8_numberHere 4 = .ok (.iconst 2, 1) := by decide +kernel
theorem dX8_numberHere_5 : decode cX8_numberHere 5 = .ok (.if_icmp .ne 16, 3) := by decide +kernel
theorem dX8_numberHere_8 : decode cX8_numberHere 8 = .ok (.aload_n 0, 1) := by decide +kernel
theorem dX8_numberHere_9 : decode cX8_numberHere 9 = .ok (.getfield 22, 3) := by decide +kernel
theorem dX8_numberHere_12 : decode cX8_numberHere 12 = .ok (.aload_n 0, 1) := by decide +kernel
theorem dX8_numberHere_13 : decode cX8_numberHere 13 = .ok (.getfield 28, 3) := by decide +kernel
theorem dX8_numberHere_16 : decode cX8_numberHere 16 = .ok (.isub, 1) := by decide +kernel
theorem dX8_numberHere_17 : decode cX8_numberHere 17 = .ok (.iconst 5, 1) := by decide +kernel
theorem dX8_numberHere_18 : decode cX8_numberHere 18 = .ok (.if_icmp .le 5, 3) := by decide +kernel
theorem dX8_numberHere_21 : decode cX8_numberHere 21 = .ok (.iconst (-1), 1) := by decide +kernel
theorem dX8_numberHere_22 : decode cX8_numberHere 22 = .ok (.ireturn, 1) := by decide +kernel
theorem dX8_numberHere_23 : decode cX8_numberHere 23 = .ok (.iconst 0, 1) := by decide +kernel
theorem dX8_numberHere_24 : decode cX8_numberHere 24 = .ok (.istore_n 1, 1) := by decide +kernel
theorem dX8_numberHere_25 : decode cX8_numberHere 25 = .ok (.aload_n 0, 1) := by decide +kernel
theorem dX8_numberHere_26 : decode cX8_numberHere 26 = .ok (.getfield 28, 3) := by decide +kernel
theorem dX8_numberHere_29 : decode cX8_numberHere 29 = .ok (.istore_n 2, 1) := by decide +kernel
theorem dX8_numberHere_30 : decode cX8_numberHere 30 = .ok (.iload_n 2, 1) := by decide +kernel
theorem dX8_numberHere_31 : decode cX8_numberHere 31 = .ok (.aload_n 0, 1) := by decide +kernel
theorem dX8_numberHere_32 : decode cX8_numberHere 32 = .ok (.getfield 22, 3) := by decide +kernel
theorem dX8_numberHere_35 : decode cX8_numberHere 35 = .ok (.if_icmp .ge 24, 3) := by decide +kernel
theorem dX8_numberHere_38 : decode cX8_numberHere 38 = .ok (.iload_n 1, 1) := by decide +kernel
theorem dX8_numberHere_39 : decode cX8_numberHere 39 = .ok (.bipush 10, 2) := by decide +kernel
theorem dX8_numberHere_41 : decode cX8_numberHere 41 = .ok (.imul, 1) := by decide +kernel
theorem dX8_numberHere_42 : decode cX8_numberHere 42 = .ok (.aload_n 0, 1) := by decide +kernel
theorem dX8_numberHere_43 : decode cX8_numberHere 43 = .ok (.getfield 9, 3) := by decide +kernel
theorem dX8_numberHere_46 : decode cX8_numberHere 46 = .ok (.iload_n 2, 1) := by decide +kernel
theorem dX8_numberHere_47 : decode cX8_numberHere 47 = .ok (.iaload, 1) := by decide +kernel
theorem dX8_numberHere_48 : decode cX8_numberHere 48 = .ok (.bipush 48, 2) := by decide +kernel
theorem dX8_numberHere_50 : decode cX8_numberHere 50 = .ok (.isub, 1) := by decide +kernel
theorem dX8_numberHere_51 : decode cX8_numberHere 51 = .ok (.iadd, 1) := by decide +kernel
theorem dX8_numberHere_52 : decode cX8_numberHere 52 = .ok (.istore_n 1, 1) := by decide +kernel
theorem dX8_numberHere_53 : decode cX8_numberHere 53 = .ok (.iinc 2 1, 3) := by decide +kernel
theorem dX8_numberHere_56 : decode cX8_numberHere 56 = .ok (.goto (-26), 3) := by decide +kernel
theorem dX8_numberHere_59 : decode cX8_numberHere 59 = .ok (.iload_n 1, 1) := by decide +kernel
theorem dX8_numberHere_60 : decode cX8_numberHere 60 = .ok (.ireturn, 1) := by decide +kernel
theorem dX8_take_0 : decode cX8_take 0 = .ok (.aload_n 0, 1) := by decide +kernel
theorem dX8_take_1 : decode cX8_take 1 = .ok (.getfield 35, 3) := by decide +kernel
theorem dX8_take_4 : decode cX8_take 4 = .ok (.iconst 2, 1) := by decide +kernel
theorem dX8_take_5 : decode cX8_take 5 = .ok (.if_icmp .eq 9, 3) := by decide +kernel
theorem dX8_take_8 : decode cX8_take 8 = .ok (.aload_n 0, 1) := by decide +kernel
theorem dX8_take_9 : decode cX8_take 9 = .ok (.iconst 0, 1) := by decide +kernel
theorem dX8_take_10 : decode cX8_take 10 = .ok (.invokevirtual 54, 3) := by decide +kernel
theorem dX8_take_13 : decode cX8_take 13 = .ok (.ireturn, 1) := by decide +kernel
theorem dX8_take_14 : decode cX8_take 14 = .ok (.aload_n 0, 1) := by decide +kernel
theorem dX8_take_15 : decode cX8_take 15 = .ok (.invokevirtual 58, 3) := by decide +kernel
theorem dX8_take_18 : decode cX8_take 18 = .ok (.istore 4, 2) := by decide +kernel
theorem dX8_take_20 : decode cX8_take 20 = .ok (.iload 4, 2) := by decide +kernel
theorem dX8_take_22 : decode cX8_take 22 = .ok (.iload_n 1, 1) := by decide +kernel
theorem dX8_take_23 : decode cX8_take 23 = .ok (.if_icmp .lt 15, 3) := by decide +kernel
theorem dX8_take_26 : decode cX8_take 26 = .ok (.iload 4, 2) := by decide +kernel
theorem dX8_take_28 : decode cX8_take 28 = .ok (.iload_n 2, 1) := by decide +kernel
theorem dX8_take_29 : decode cX8_take 29 = .ok (.if_icmp .gt 9, 3) := by decide +kernel
theorem dX8_take_32 : decode cX8_take 32 = .ok (.iload 4, 2) := by decide +kernel
theorem dX8_take_34 : decode cX8_take 34 = .ok (.iload_n 3, 1) := by decide +kernel
theorem dX8_take_35 : decode cX8_take 35 = .ok (.if_icmp .ne 9, 3) := by decide +kernel
theorem dX8_take_38 : decode cX8_take 38 = .ok (.aload_n 0, 1) := by decide +kernel
theorem dX8_take_39 : decode cX8_take 39 = .ok (.iconst 1, 1) := by decide +kernel
theorem dX8_take_40 : decode cX8_take 40 = .ok (.invokevirtual 54, 3) := by decide +kernel
theorem dX8_take_43 : decode cX8_take 43 = .ok (.ireturn, 1) := by decide +kernel
theorem dX8_take_44 : decode cX8_take 44 = .ok (.aload_n 0, 1) := by decide +kernel
theorem dX8_take_45 : decode cX8_take 45 = .ok (.iload 4, 2) := by decide +kernel
theorem dX8_take_47 : decode cX8_take 47 = .ok (.putfield 61, 3) := by decide +kernel
theorem dX8_take_50 : decode cX8_take 50 = .ok (.aload_n 0, 1) := by decide +kernel
theorem dX8_take_51 : decode cX8_take 51 = .ok (.invokevirtual 25, 3) := by decide +kernel
theorem dX8_take_54 : decode cX8_take 54 = .ok (.iconst 1, 1) := by decide +kernel
theorem dX8_take_55 : decode cX8_take 55 = .ok (.ireturn, 1) := by decide +kernel
theorem dX8_clauseFollows_0 : decode cX8_clauseFollows 0 = .ok (.aload_n 0, 1) := by decide +kernel
theorem dX8_clauseFollows_1 : decode cX8_clauseFollows 1 = .ok (.getfield 35, 3) := by decide +kernel
theorem dX8_clauseFollows_4 : decode cX8_clauseFollows 4 = .ok (.ifCond .ne 5, 3) := by decide +kernel
theorem dX8_clauseFollows_7 : decode cX8_clauseFollows 7 = .ok (.iconst 0, 1) := by decide +kernel
theorem dX8_clauseFollows_8 : decode cX8_clauseFollows 8 = .ok (.ireturn, 1) := by decide +kernel
theorem dX8_clauseFollows_9 : decode cX8_clauseFollows 9 = .ok (.aload_n 0, 1) := by decide +kernel
theorem dX8_clauseFollows_10 : decode cX8_clauseFollows 10 = .ok (.ldc 64, 2) := by decide +kernel
theorem dX8_clauseFollows_12 : decode cX8_clauseFollows 12 = .ok (.invokevirtual 66, 3) := by decide +kernel
theorem dX8_clauseFollows_15 : decode cX8_clauseFollows 15 = .ok (.iconst (-1), 1) := by decide +kernel
theorem dX8_clauseFollows_16 : decode cX8_clauseFollows 16 = .ok (.if_icmp .ne 9, 3) := by decide +kernel
theorem dX8_clauseFollows_19 : decode cX8_clauseFollows 19 = .ok (.aload_n 0, 1) := by decide +kernel
theorem dX8_clauseFollows_20 : decode cX8_clauseFollows 20 = .ok (.iconst 0, 1) := by decide +kernel
theorem dX8_clauseFollows_21 : decode cX8_clauseFollows 21 = .ok (.invokevirtual 54, 3) := by decide +kernel
theorem dX8_clauseFollows_24 : decode cX8_clauseFollows 24 = .ok (.ireturn, 1) := by decide +kernel
theorem dX8_clauseFollows_25 : decode cX8_clauseFollows 25 = .ok (.aload_n 0, 1) := by decide +kernel
theorem dX8_clauseFollows_26 : decode cX8_clauseFollows 26 = .ok (.invokevirtual 25, 3) := by decide +kernel
theorem dX8_clauseFollows_29 : decode cX8_clauseFollows 29 = .ok (.iconst 1, 1) := by decide +kernel
theorem dX8_clauseFollows_30 : decode cX8_clauseFollows 30 = .ok (.ireturn, 1) := by decide +kernel
theorem dX8_refuse_0 : decode cX8_refuse 0 = .ok (.aload_n 0, 1) := by decide +kernel
theorem dX8_refuse_1 : decode cX8_refuse 1 = .ok (.getfield 19, 3) := by decide +kernel
theorem dX8_refuse_4 : decode cX8_refuse 4 = .ok (.ifCond .ne 18, 3) := by decide +kernel
theorem dX8_refuse_7 : decode cX8_refuse 7 = .ok (.aload_n 0, 1) := by decide +kernel
theorem dX8_refuse_8 : decode cX8_refuse 8 = .ok (.iconst 1, 1) := by decide +kernel
theorem dX8_refuse_9 : decode cX8_refuse 9 = .ok (.bipush 8, 2) := by decide +kernel
theorem dX8_refuse_11 : decode cX8_refuse 11 = .ok (.aload_n 0, 1) := by decide +kernel
theorem dX8_refuse_12 : decode cX8_refuse 12 = .ok (.getfield 28, 3) := by decide +kernel
theorem dX8_refuse_15 : decode cX8_refuse 15 = .ok (.imul, 1) := by decide +kernel
theorem dX8_refuse_16 : decode cX8_refuse 16 = .ok (.iadd, 1) := by decide +kernel
theorem dX8_refuse_17 : decode cX8_refuse 17 = .ok (.iload_n 1, 1) := by decide +kernel
theorem dX8_refuse_18 : decode cX8_refuse 18 = .ok (.iadd, 1) := by decide +kernel
theorem dX8_refuse_19 : decode cX8_refuse 19 = .ok (.putfield 19, 3) := by decide +kernel
theorem dX8_refuse_22 : decode cX8_refuse 22 = .ok (.iconst 0, 1) := by decide +kernel
theorem dX8_refuse_23 : decode cX8_refuse 23 = .ok (.ireturn, 1) := by decide +kernel
theorem dX9_init_0 : decode cX9_init 0 = .ok (.aload_n 0, 1) := by decide +kernel
theorem dX9_init_1 : decode cX9_init 1 = .ok (.invokespecial 3, 3) := by decide +kernel
theorem dX9_init_4 : decode cX9_init 4 = .ok (.aload_n 0, 1) := by decide +kernel
theorem dX9_init_5 : decode cX9_init 5 = .ok (.bipush 6, 2) := by decide +kernel
theorem dX9_init_7 : decode cX9_init 7 = .ok (.newarray .int, 2) := by decide +kernel
theorem dX9_init_9 : decode cX9_init 9 = .ok (.putfield 9, 3) := by decide +kernel
theorem dX9_init_12 : decode cX9_init 12 = .ok (.aload_n 0, 1) := by decide +kernel
theorem dX9_init_13 : decode cX9_init 13 = .ok (.bipush 6, 2) := by decide +kernel
theorem dX9_init_15 : decode cX9_init 15 = .ok (.newarray .int, 2) := by decide +kernel
theorem dX9_init_17 : decode cX9_init 17 = .ok (.putfield 15, 3) := by decide +kernel
theorem dX9_init_20 : decode cX9_init 20 = .ok (.aload_n 0, 1) := by decide +kernel
theorem dX9_init_21 : decode cX9_init 21 = .ok (.iconst 5, 1) := by decide +kernel
theorem dX9_init_22 : decode cX9_init 22 = .ok (.newarray .int, 2) := by decide +kernel
theorem dX9_init_24 : decode cX9_init 24 = .ok (.putfield 18, 3) := by decide +kernel
theorem dX9_init_27 : decode cX9_init 27 = .ok (.aload_n 0, 1) := by decide +kernel
theorem dX9_init_28 : decode cX9_init 28 = .ok (.iconst 5, 1) := by decide +kernel
theorem dX9_init_29 : decode cX9_init 29 = .ok (.newarray .int, 2) := by decide +kernel
theorem dX9_init_31 : decode cX9_init 31 = .ok (.putfield 21, 3) := by decide +kernel
theorem dX9_init_34 : decode cX9_init 34 = .ok (.aload_n 0, 1) := by decide +kernel
theorem dX9_init_35 : decode cX9_init 35 = .ok (.iconst 5, 1) := by decide +kernel
theorem dX9_init_36 : decode cX9_init 36 = .ok (.newarray .int, 2) := by decide +kernel
theorem dX9_init_38 : decode cX9_init 38 = .ok (.putfield 24, 3) := by decide +kernel
theorem dX9_init_41 : decode cX9_init 41 = .ok (.return_, 1) := by decide +kernel
theorem dX10_init_0 : decode cX10_init 0 = .ok (.aload_n 0, 1) := by decide +kernel
theorem dX10_init_1 : decode cX10_init 1 = .ok (.invokespecial 3, 3) := by decide +kernel
theorem dX10_init_4 : decode cX10_init 4 = .ok (.aload_n 0, 1) := by decide +kernel
theorem dX10_init_5 : decode cX10_init 5 = .ok (.aload_n 1, 1) := by decide +kernel
theorem dX10_init_6 : decode cX10_init 6 = .ok (.putfield 9, 3) := by decide +kernel
theorem dX10_init_9 : decode cX10_init 9 = .ok (.return_, 1) := by decide +kernel
theorem dX10_read_0 : decode cX10_read 0 = .ok (.new 15, 3) := by decide +kernel
theorem dX10_read_3 : decode cX10_read 3 = .ok (.dup, 1) := by decide +kernel
theorem dX10_read_4 : decode cX10_read 4 = .ok (.invokespecial 17, 3) := by decide +kernel
theorem dX10_read_7 : decode cX10_read 7 = .ok (.astore_n 1, 1) := by decide +kernel
theorem dX10_read_8 : decode cX10_read 8 = .ok (.aload_n 0, 1) := by decide +kernel
theorem dX10_read_9 : decode cX10_read 9 = .ok (.getfield 9, 3) := by decide +kernel
theorem dX10_read_12 : decode cX10_read 12 = .ok (.invokevirtual 18, 3) := by decide +kernel
theorem dX10_read_15 : decode cX10_read 15 = .ok (.iconst 1, 1) := by decide +kernel
theorem dX10_read_16 : decode cX10_read 16 = .ok (.istore_n 2, 1) := by decide +kernel
theorem dX10_read_17 : decode cX10_read 17 = .ok (.iconst 0, 1) := by decide +kernel
theorem dX10_read_18 : decode cX10_read 18 = .ok (.istore_n 3, 1) := by decide +kernel
theorem dX10_read_19 : decode cX10_read 19 = .ok (.iload_n 2, 1) := by decide +kernel
theorem dX10_read_20 : decode cX10_read 20 = .ok (.ifCond .eq 40, 3) := by decide +kernel
theorem dX10_read_23 : decode cX10_read 23 = .ok (.iload_n 3, 1) := by decide +kernel
theorem dX10_read_24 : decode cX10_read 24 = .ok (.bipush 40, 2) := by decide +kernel
theorem dX10_read_26 : decode cX10_read 26 = .ok (.if_icmp .gt 34, 3) := by decide +kernel
theorem dX10_read_29 : decode cX10_read 29 = .ok (.aload_n 0, 1) := by decide +kernel
theorem dX10_read_30 : decode cX10_read 30 = .ok (.aload_n 1, 1) := by decide +kernel
theorem dX10_read_31 : decode cX10_read 31 = .ok (.iload_n 3, 1) := by decide +kernel
theorem dX10_read_32 : decode cX10_read 32 = .ok (.invokevirtual 23, 3) := by decide +kernel
theorem dX10_read_35 : decode cX10_read 35 = .ok (.ifCond .eq 17, 3) := by decide +kernel
theorem dX10_read_38 : decode cX10_read 38 = .ok (.aload_n 0, 1) := by decide +kernel
theorem dX10_read_39 : decode cX10_read 39 = .ok (.getfield 9, 3) := by decide +kernel
theorem dX10_read_42 : decode cX10_read 42 = .ok (.invokevirtual 27, 3) := by decide +kernel
theorem dX10_read_45 : decode cX10_read 45 = .ok (.ifCond .eq 7, 3) := by decide +kernel
theorem dX10_read_48 : decode cX10_read 48 = .ok (.iconst 1, 1) := by decide +kernel
theorem dX10_read_49 : decode cX10_read 49 = .ok (.goto 4, 3) := by decide +kernel
theorem dX10_read_52 : decode cX10_read 52 = .ok (.iconst 0, 1) := by decide +kernel
theorem dX10_read_53 : decode cX10_read 53 = .ok (.istore_n 2, 1) := by decide +kernel
theorem dX10_read_54 : decode cX10_read 54 = .ok (.iinc 3 1, 3) := by decide +kernel
theorem dX10_read_57 : decode cX10_read 57 = .ok (.goto (-38), 3) := by decide +kernel
theorem dX10_read_60 : decode cX10_read 60 = .ok (.aload_n 0, 1) := by decide +kernel
theorem dX10_read_61 : decode cX10_read 61 = .ok (.getfield 9, 3) := by decide +kernel
theorem dX10_read_64 : decode cX10_read 64 = .ok (.getfield 31, 3) := by decide +kernel
theorem dX10_read_67 : decode cX10_read 67 = .ok (.ifCond .ne 7, 3) := by decide +kernel
theorem dX10_read_70 : decode cX10_read 70 = .ok (.aload_n 1, 1) := by decide +kernel
theorem dX10_read_71 : decode cX10_read 71 = .ok (.goto 4, 3) := by decide +kernel
theorem dX10_read_74 : decode cX10_read 74 = .ok (.aconst_null, 1) := by decide +kernel
theorem dX10_read_75 : decode cX10_read 75 = .ok (.areturn, 1) := by decide +kernel
theorem dX10_clause_0 : decode cX10_clause 0 = .ok (.aload_n 0, 1) := by decide +kernel
theorem dX10_clause_1 : decode cX10_clause 1 = .ok (.getfield 9, 3) := by decide +kernel
theorem dX10_clause_4 : decode cX10_clause 4 = .ok (.ldc 35, 2) := by decide +kernel
theorem dX10_clause_6 : decode cX10_clause 6 = .ok (.invokevirtual 37, 3) := by decide +kernel
theorem dX10_clause_9 : decode cX10_clause 9 = .ok (.istore_n 3, 1) := by decide +kernel
theorem dX10_clause_10 : decode cX10_clause 10 = .ok (.iload_n 3, 1) := by decide +kernel
theorem dX10_clause_11 : decode cX10_clause 11 = .ok (.iconst (-1), 1) := by decide +kernel
theorem dX10_clause_12 : decode cX10_clause 12 = .ok (.if_icmp .ne 12, 3) := by decide +kernel
theorem dX10_clause_15 : decode cX10_clause 15 = .ok (.aload_n 0, 1) := by decide +kernel
theorem dX10_clause_16 : decode cX10_clause 16 = .ok (.getfield 9, 3) := by decide +kernel
theorem dX10_clause_19 : decode cX10_clause 19 = .ok (.iconst 0, 1) := by decide +kernel
theorem dX10_clause_20 : decode cX10_clause 20 = .ok (.invokevirtual 41, 3) := by decide +kernel
theorem dX10_clause_23 : decode cX10_clause 23 = .ok (.ireturn, 1) := by decide +kernel
theorem dX10_clause_24 : decode cX10_clause 24 = .ok (.iload_n 2, 1) := by decide +kernel
theorem dX10_clause_25 : decode cX10_clause 25 = .ok (.ifCond .ne 7, 3) := by decide +kernel
theorem dX10_clause_28 : decode cX10_clause 28 = .ok (.iconst 1, 1) := by decide +kernel
theorem dX10_clause_29 : decode cX10_clause 29 = .ok (.goto 4, 3) := by decide +kernel
theorem dX10_clause_32 : decode cX10_clause 32 = .ok (.iconst 0, 1) := by decide +kernel
theorem dX10_clause_33 : decode cX10_clause 33 = .ok (.iload_n 3, 1) := by decide +kernel
theorem dX10_clause_34 : decode cX10_clause 34 = .ok (.ifCond .ne 7, 3) := by decide +kernel
theorem dX10_clause_37 : decode cX10_clause 37 = .ok (.iconst 1, 1) := by decide +kernel
theorem dX10_clause_38 : decode cX10_clause 38 = .ok (.goto 4, 3) := by decide +kernel
theorem dX10_clause_41 : decode cX10_clause 41 = .ok (.iconst 0, 1) := by decide +kernel
theorem dX10_clause_42 : decode cX10_clause 42 = .ok (.if_icmp .ne 7, 3) := by decide +kernel
theorem dX10_clause_45 : decode cX10_clause 45 = .ok (.iconst 1, 1) := by decide +kernel
theorem dX10_clause_46 : decode cX10_clause 46 = .ok (.goto 4, 3) := by decide +kernel
theorem dX10_clause_49 : decode cX10_clause 49 = .ok (.iconst 0, 1) := by decide +kernel
theorem dX10_clause_50 : decode cX10_clause 50 = .ok (.istore 4, 2) := by decide +kernel
theorem dX10_clause_52 : decode cX10_clause 52 = .ok (.iload_n 2, 1) := by decide +kernel
theorem dX10_clause_53 : decode cX10_clause 53 = .ok (.bipush 40, 2) := by decide +kernel
theorem dX10_clause_55 : decode cX10_clause 55 = .ok (.if_icmp .ge 16, 3) := by decide +kernel
theorem dX10_clause_58 : decode cX10_clause 58 = .ok (.iload 4, 2) := by decide +kernel
theorem dX10_clause_60 : decode cX10_clause 60 = .ok (.ifCond .eq 11, 3) := by decide +kernel
theorem dX10_clause_63 : decode cX10_clause 63 = .ok (.aload_n 1, 1) := by decide +kernel
theorem dX10_clause_64 : decode cX10_clause 64 = .ok (.iload_n 3, 1) := by decide +kernel
theorem dX10_clause_65 : decode cX10_clause 65 = .ok (.invokestatic 45, 3) := by decide +kernel
theorem dX10_clause_68 : decode cX10_clause 68 = .ok (.ifCond .eq 12, 3) := by decide +kernel
theorem dX10_clause_71 : decode cX10_clause 71 = .ok (.aload_n 0, 1) := by decide +kernel
theorem dX10_clause_72 : decode cX10_clause 72 = .ok (.getfield 9, 3) := by decide +kernel
theorem dX10_clause_75 : decode cX10_clause 75 = .ok (.iconst 4, 1) := by decide +kernel
theorem dX10_clause_76 : decode cX10_clause 76 = .ok (.invokevirtual 41, 3) := by decide +kernel
theorem dX10_clause_79 : decode cX10_clause 79 = .ok (.ireturn, 1) := by decide +kernel
theorem dX10_clause_80 : decode cX10_clause 80 = .ok (.aload_n 0, 1) := by decide +kernel
theorem dX10_clause_81 : decode cX10_clause 81 = .ok (.getfield 9, 3) := by decide +kernel
theorem dX10_clause_84 : decode cX10_clause 84 = .ok (.invokevirtual 48, 3) := by decide +kernel
theorem dX10_clause_87 : decode cX10_clause 87 = .ok (.iload_n 3, 1) := by decide +kernel
theorem dX10_clause_88 : decode cX10_clause 88 = .ok (.tableswitch 46 0 2 #[28, 34, 40], 28) := by decide +kernel
theorem dX10_clause_116 : decode cX10_clause 116 = .ok (.aload_n 0, 1) := by decide +kernel
theorem dX10_clause_117 : decode cX10_clause 117 = .ok (.aload_n 1, 1) := by decide +kernel
theorem dX10_clause_118 : decode cX10_clause 118 = .ok (.invokevirtual 51, 3) := by decide +kernel
theorem dX10_clause_121 : decode cX10_clause 121 = .ok (.ireturn, 1) := by decide +kernel
theorem dX10_clause_122 : decode cX10_clause 122 = .ok (.aload_n 0, 1) := by decide +kernel
theorem dX10_clause_123 : decode cX10_clause 123 = .ok (.aload_n 1, 1) := by decide +kernel
theorem dX10_clause_124 : decode cX10_clause 124 = .ok (.invokevirtual 55, 3) := by decide +kernel
theorem dX10_clause_127 : decode cX10_clause 127 = .ok (.ireturn, 1) := by decide +kernel
theorem dX10_clause_128 : decode cX10_clause 128 = .ok (.aload_n 0, 1) := by decide +kernel
theorem dX10_clause_129 : decode cX10_clause 129 = .ok (.aload_n 1, 1) := by decide +kernel
theorem dX10_clause_130 : decode cX10_clause 130 = .ok (.invokevirtual 58, 3) := by decide +kernel
theorem dX10_clause_133 : decode cX10_clause 133 = .ok (.ireturn, 1) := by decide +kernel
theorem dX10_clause_134 : decode cX10_clause 134 = .ok (.aload_n 0, 1) := by decide +kernel
theorem dX10_clause_135 : decode cX10_clause 135 = .ok (.aload_n 1, 1) := by decide +kernel
theorem dX10_clause_136 : decode cX10_clause 136 = .ok (.invokevirtual 61, 3) := by decide +kernel
theorem dX10_clause_139 : decode cX10_clause 139 = .ok (.ireturn, 1) := by decide +kernel
theorem dX10_isFull_0 : decode cX10_isFull 0 = .ok (.iload_n 1, 1) := by decide +kernel
theorem dX10_isFull_1 : decode cX10_isFull 1 = .ok (.ifCond .eq 8, 3) := by decide +kernel
theorem dX10_isFull_4 : decode cX10_isFull 4 = .ok (.iload_n 1, 1) := by decide +kernel
theorem dX10_isFull_5 : decode cX10_isFull 5 = .ok (.iconst 1, 1) := by decide +kernel
theorem dX10_isFull_6 : decode cX10_isFull 6 = .ok (.if_icmp .ne 5, 3) := by decide +kernel
theorem dX10_isFull_9 : decode cX10_isFull 9 = .ok (.iconst 0, 1) := by decide +kernel
theorem dX10_isFull_10 : decode cX10_isFull 10 = .ok (.ireturn, 1) := by decide +kernel
theorem dX10_isFull_11 : decode cX10_isFull 11 = .ok (.iload_n 1, 1) := by decide +kernel
theorem dX10_isFull_12 : decode cX10_isFull 12 = .ok (.iconst 2, 1) := by decide +kernel
theorem dX10_isFull_13 : decode cX10_isFull 13 = .ok (.if_icmp .ne 20, 3) := by decide +kernel
theorem dX10_isFull_16 : decode cX10_isFull 16 = .ok (.aload_n 0, 1) := by decide +kernel
theorem dX10_isFull_17 : decode cX10_isFull 17 = .ok (.getfield 64, 3) := by decide +kernel
theorem dX10_isFull_20 : decode cX10_isFull 20 = .ok (.bipush 6, 2) := by decide +kernel
theorem dX10_isFull_22 : decode cX10_isFull 22 = .ok (.if_icmp .lt 7, 3) := by decide +kernel
theorem dX10_isFull_25 : decode cX10_isFull 25 = .ok (.iconst 1, 1) := by decide +kernel
theorem dX10_isFull_26 : decode cX10_isFull 26 = .ok (.goto 20, 3) := by decide +kernel
theorem dX10_isFull_29 : decode cX10_isFull 29 = .ok (.iconst 0, 1) := by decide +kernel
theorem dX10_isFull_30 : decode cX10_isFull 30 = .ok (.goto 16, 3) := by decide +kernel
theorem dX10_isFull_33 : decode cX10_isFull 33 = .ok (.aload_n 0, 1) := by decide +kernel
theorem dX10_isFull_34 : decode cX10_isFull 34 = .ok (.getfield 67, 3) := by decide +kernel
theorem dX10_isFull_37 : decode cX10_isFull 37 = .ok (.iconst 5, 1) := by decide +kernel
theorem dX10_isFull_38 : decode cX10_isFull 38 = .ok (.if_icmp .lt 7, 3) := by decide +kernel
theorem dX10_isFull_41 : decode cX10_isFull 41 = .ok (.iconst 1, 1) := by decide +kernel
theorem dX10_isFull_42 : decode cX10_isFull 42 = .ok (.goto 4, 3) := by decide +kernel
theorem dX10_isFull_45 : decode cX10_isFull 45 = .ok (.iconst 0, 1) := by decide +kernel
theorem dX10_isFull_46 : decode cX10_isFull 46 = .ok (.ireturn, 1) := by decide +kernel
theorem dX10_tellSize_0 : decode cX10_tellSize 0 = .ok (.aload_n 0, 1) := by decide +kernel
theorem dX10_tellSize_1 : decode cX10_tellSize 1 = .ok (.getfield 9, 3) := by decide +kernel
theorem dX10_tellSize_4 : decode cX10_tellSize 4 = .ok (.iconst 2, 1) := by decide +kernel
theorem dX10_tellSize_5 : decode cX10_tellSize 5 = .ok (.bipush 8, 2) := by decide +kernel
theorem dX10_tellSize_7 : decode cX10_tellSize 7 = .ok (.iconst (-1), 1) := by decide +kernel
theorem dX10_tellSize_8 : decode cX10_tellSize 8 = .ok (.invokevirtual 70, 3) := by decide +kernel
theorem dX10_tellSize_11 : decode cX10_tellSize 11 = .ok (.ifCond .ne 5, 3) := by decide +kernel
theorem dX10_tellSize_14 : decode cX10_tellSize 14 = .ok (.iconst 0, 1) := by decide +kernel
theorem dX10_tellSize_15 : decode cX10_tellSize 15 = .ok (.ireturn, 1) := by decide +kernel
theorem dX10_tellSize_16 : decode cX10_tellSize 16 = .ok (.aload_n 1, 1) := by decide +kernel
theorem dX10_tellSize_17 : decode cX10_tellSize 17 = .ok (.aload_n 0, 1) := by decide +kernel
theorem dX10_tellSize_18 : decode cX10_tellSize 18 = .ok (.getfield 9, 3) := by decide +kernel
theorem dX10_tellSize_21 : decode cX10_tellSize 21 = .ok (.getfield 74, 3) := by decide +kernel
theorem dX10_tellSize_24 : decode cX10_tellSize 24 = .ok (.putfield 77, 3) := by decide +kernel
theorem dX10_tellSize_27 : decode cX10_tellSize 27 = .ok (.aload_n 0, 1) := by decide +kernel
theorem dX10_tellSize_28 : decode cX10_tellSize 28 = .ok (.getfield 9, 3) := by decide +kernel
theorem dX10_tellSize_31 : decode cX10_tellSize 31 = .ok (.iconst 1, 1) := by decide +kernel
theorem dX10_tellSize_32 : decode cX10_tellSize 32 = .ok (.bipush 30, 2) := by decide +kernel
theorem dX10_tellSize_34 : decode cX10_tellSize 34 = .ok (.iconst (-1), 1) := by decide +kernel
theorem dX10_tellSize_35 : decode cX10_tellSize 35 = .ok (.invokevirtual 70, 3) := by decide +kernel
theorem dX10_tellSize_38 : decode cX10_tellSize 38 = .ok (.ifCond .ne 5, 3) := by decide +kernel
theorem dX10_tellSize_41 : decode cX10_tellSize 41 = .ok (.iconst 0, 1) := by decide +kernel
theorem dX10_tellSize_42 : decode cX10_tellSize 42 = .ok (.ireturn, 1) := by decide +kernel
theorem dX10_tellSize_43 : decode cX10_tellSize 43 = .ok (.aload_n 1, 1) := by decide +kernel
theorem dX10_tellSize_44 : decode cX10_tellSize 44 = .ok (.aload_n 0, 1) := by decide +kernel
theorem dX10_tellSize_45 : decode cX10_tellSize 45 = .ok (.getfield 9, 3) := by decide +kernel
theorem dX10_tellSize_48 : decode cX10_tellSize 48 = .ok (.getfield 74, 3) := by decide +kernel
theorem dX10_tellSize_51 : decode cX10_tellSize 51 = .ok (.putfield 80, 3) := by decide +kernel
theorem dX10_tellSize_54 : decode cX10_tellSize 54 = .ok (.iconst 1, 1) := by decide +kernel
theorem dX10_tellSize_55 : decode cX10_tellSize 55 = .ok (.ireturn, 1) := by decide +kernel
theorem dX10_tellStreet_0 : decode cX10_tellStreet 0 = .ok (.aload_n 0, 1) := by decide +kernel
theorem dX10_tellStreet_1 : decode cX10_tellStreet 1 = .ok (.getfield 9, 3) := by decide +kernel
theorem dX10_tellStreet_4 : decode cX10_tellStreet 4 = .ok (.iconst 0, 1) := by decide +kernel
theorem dX10_tellStreet_5 : decode cX10_tellStreet 5 = .ok (.aload_n 1, 1) := by decide +kernel
theorem dX10_tellStreet_6 : decode cX10_tellStreet 6 = .ok (.getfield 77, 3) := by decide +kernel
theorem dX10_tellStreet_9 : decode cX10_tellStreet 9 = .ok (.iconst 1, 1) := by decide +kernel
theorem dX10_tellStreet_10 : decode cX10_tellStreet 10 = .ok (.isub, 1) := by decide +kernel
theorem dX10_tellStreet_11 : decode cX10_tellStreet 11 = .ok (.iconst (-1), 1) := by decide +kernel
theorem dX10_tellStreet_12 : decode cX10_tellStreet 12 = .ok (.invokevirtual 70, 3) := by decide +kernel
theorem dX10_tellStreet_15 : decode cX10_tellStreet 15 = .ok (.ifCond .ne 5, 3) := by decide +kernel
theorem dX10_tellStreet_18 : decode cX10_tellStreet 18 = .ok (.iconst 0, 1) := by decide +kernel
theorem dX10_tellStreet_19 : decode cX10_tellStreet 19 = .ok (.ireturn, 1) := by decide +kernel
theorem dX10_tellStreet_20 : decode cX10_tellStreet 20 = .ok (.aload_n 0, 1) := by decide +kernel
theorem dX10_tellStreet_21 : decode cX10_tellStreet 21 = .ok (.getfield 9, 3) := by decide +kernel
theorem dX10_tellStreet_24 : decode cX10_tellStreet 24 = .ok (.getfield 74, 3) := by decide +kernel
theorem dX10_tellStreet_27 : decode cX10_tellStreet 27 = .ok (.istore_n 2, 1) := by decide +kernel
theorem dX10_tellStreet_28 : decode cX10_tellStreet 28 = .ok (.aload_n 0, 1) := by decide +kernel
theorem dX10_tellStreet_29 : decode cX10_tellStreet 29 = .ok (.getfield 9, 3) := by decide +kernel
theorem dX10_tellStreet_32 : decode cX10_tellStreet 32 = .ok (.iconst 0, 1) := by decide +kernel
theorem dX10_tellStreet_33 : decode cX10_tellStreet 33 = .ok (.aload_n 1, 1) := by decide +kernel
theorem dX10_tellStreet_34 : decode cX10_tellStreet 34 = .ok (.getfield 77, 3) := by decide +kernel
theorem dX10_tellStreet_37 : decode cX10_tellStreet 37 = .ok (.iconst 1, 1) := by decide +kernel
theorem dX10_tellStreet_38 : decode cX10_tellStreet 38 = .ok (.isub, 1) := by decide +kernel
theorem dX10_tellStreet_39 : decode cX10_tellStreet 39 = .ok (.iload_n 2, 1) := by decide +kernel
theorem dX10_tellStreet_40 : decode cX10_tellStreet 40 = .ok (.invokevirtual 70, 3) := by decide +kernel
theorem dX10_tellStreet_43 : decode cX10_tellStreet 43 = .ok (.ifCond .ne 5, 3) := by decide +kernel
theorem dX10_tellStreet_46 : decode cX10_tellStreet 46 = .ok (.iconst 0, 1) := by decide +kernel
theorem dX10_tellStreet_47 : decode cX10_tellStreet 47 = .ok (.ireturn, 1) := by decide +kernel
theorem dX10_tellStreet_48 : decode cX10_tellStreet 48 = .ok (.aload_n 1, 1) := by decide +kernel
theorem dX10_tellStreet_49 : decode cX10_tellStreet 49 = .ok (.dup, 1) := by decide +kernel
theorem dX10_tellStreet_50 : decode cX10_tellStreet 50 = .ok (.getfield 83, 3) := by decide +kernel
theorem dX10_tellStreet_53 : decode cX10_tellStreet 53 = .ok (.iload_n 2, 1) := by decide +kernel
theorem dX10_tellStreet_54 : decode cX10_tellStreet 54 = .ok (.aload_n 0, 1) := by decide +kernel
theorem dX10_tellStreet_55 : decode cX10_tellStreet 55 = .ok (.getfield 9, 3) := by decide +kernel
theorem dX10_tellStreet_58 : decode cX10_tellStreet 58 = .ok (.getfield 74, 3) := by decide +kernel
theorem dX10_tellStreet_61 : decode cX10_tellStreet 61 = .ok (.invokestatic 87, 3) := by decide +kernel
theorem dX10_tellStreet_64 : decode cX10_tellStreet 64 = .ok (.lor, 1) := by decide +kernel
theorem dX10_tellStreet_65 : decode cX10_tellStreet 65 = .ok (.putfield 83, 3) := by decide +kernel
theorem dX10_tellStreet_68 : decode cX10_tellStreet 68 = .ok (.iconst 1, 1) := by decide +kernel
theorem dX10_tellStreet_69 : decode cX10_tellStreet 69 = .ok (.ireturn, 1) := by decide +kernel
theorem dX10_tellPerson_0 : decode cX10_tellPerson 0 = .ok (.aload_n 1, 1) := by decide +kernel
theorem dX10_tellPerson_1 : decode cX10_tellPerson 1 = .ok (.getfield 64, 3) := by decide +kernel
theorem dX10_tellPerson_4 : decode cX10_tellPerson 4 = .ok (.istore_n 2, 1) := by decide +kernel
theorem dX10_tellPerson_5 : decode cX10_tellPerson 5 = .ok (.aload_n 0, 1) := by decide +kernel
theorem dX10_tellPerson_6 : decode cX10_tellPerson 6 = .ok (.getfield 9, 3) := by decide +kernel
theorem dX10_tellPerson_9 : decode cX10_tellPerson 9 = .ok (.iconst 0, 1) := by decide +kernel
theorem dX10_tellPerson_10 : decode cX10_tellPerson 10 = .ok (.aload_n 1, 1) := by decide +kernel
theorem dX10_tellPerson_11 : decode cX10_tellPerson 11 = .ok (.getfield 77, 3) := by decide +kernel
theorem dX10_tellPerson_14 : decode cX10_tellPerson 14 = .ok (.iconst 1, 1) := by decide +kernel
theorem dX10_tellPerson_15 : decode cX10_tellPerson 15 = .ok (.isub, 1) := by decide +kernel
theorem dX10_tellPerson_16 : decode cX10_tellPerson 16 = .ok (.iconst (-1), 1) := by decide +kernel
theorem dX10_tellPerson_17 : decode cX10_tellPerson 17 = .ok (.invokevirtual 70, 3) := by decide +kernel
theorem dX10_tellPerson_20 : decode cX10_tellPerson 20 = .ok (.ifCond .ne 5, 3) := by decide +kernel
theorem dX10_tellPerson_23 : decode cX10_tellPerson 23 = .ok (.iconst 0, 1) := by decide +kernel
theorem dX10_tellPerson_24 : decode cX10_tellPerson 24 = .ok (.ireturn, 1) := by decide +kernel
theorem dX10_tellPerson_25 : decode cX10_tellPerson 25 = .ok (.aload_n 1, 1) := by decide +kernel
theorem dX10_tellPerson_26 : decode cX10_tellPerson 26 = .ok (.getfield 93, 3) := by decide +kernel
theorem dX10_tellPerson_29 : decode cX10_tellPerson 29 = .ok (.iload_n 2, 1) := by decide +kernel
theorem dX10_tellPerson_30 : decode cX10_tellPerson 30 = .ok (.aload_n 0, 1) := by decide +kernel
theorem dX10_tellPerson_31 : decode cX10_tellPerson 31 = .ok (.getfield 9, 3) := by decide +kernel
theorem dX10_tellPerson_34 : decode cX10_tellPerson 34 = .ok (.getfield 74, 3) := by decide +kernel
theorem dX10_tellPerson_37 : decode cX10_tellPerson 37 = .ok (.iastore, 1) := by decide +kernel
theorem dX10_tellPerson_38 : decode cX10_tellPerson 38 = .ok (.aload_n 0, 1) := by decide +kernel
theorem dX10_tellPerson_39 : decode cX10_tellPerson 39 = .ok (.getfield 9, 3) := by decide +kernel
theorem dX10_tellPerson_42 : decode cX10_tellPerson 42 = .ok (.iconst 0, 1) := by decide +kernel
theorem dX10_tellPerson_43 : decode cX10_tellPerson 43 = .ok (.bipush 9, 2) := by decide +kernel
theorem dX10_tellPerson_45 : decode cX10_tellPerson 45 = .ok (.iconst (-1), 1) := by decide +kernel
theorem dX10_tellPerson_46 : decode cX10_tellPerson 46 = .ok (.invokevirtual 70, 3) := by decide +kernel
theorem dX10_tellPerson_49 : decode cX10_tellPerson 49 = .ok (.ifCond .ne 5, 3) := by decide +kernel
theorem dX10_tellPerson_52 : decode cX10_tellPerson 52 = .ok (.iconst 0, 1) := by decide +kernel
theorem dX10_tellPerson_53 : decode cX10_tellPerson 53 = .ok (.ireturn, 1) := by decide +kernel
theorem dX10_tellPerson_54 : decode cX10_tellPerson 54 = .ok (.aload_n 1, 1) := by decide +kernel
theorem dX10_tellPerson_55 : decode cX10_tellPerson 55 = .ok (.getfield 97, 3) := by decide +kernel
theorem dX10_tellPerson_58 : decode cX10_tellPerson 58 = .ok (.iload_n 2, 1) := by decide +kernel
theorem dX10_tellPerson_59 : decode cX10_tellPerson 59 = .ok (.aload_n 0, 1) := by decide +kernel
theorem dX10_tellPerson_60 : decode cX10_tellPerson 60 = .ok (.getfield 9, 3) := by decide +kernel
theorem dX10_tellPerson_63 : decode cX10_tellPerson 63 = .ok (.getfield 74, 3) := by decide +kernel
theorem dX10_tellPerson_66 : decode cX10_tellPerson 66 = .ok (.iastore, 1) := by decide +kernel
theorem dX10_tellPerson_67 : decode cX10_tellPerson 67 = .ok (.aload_n 0, 1) := by decide +kernel
theorem dX10_tellPerson_68 : decode cX10_tellPerson 68 = .ok (.getfield 9, 3) := by decide +kernel
theorem dX10_tellPerson_71 : decode cX10_tellPerson 71 = .ok (.iconst 0, 1) := by decide +kernel
theorem dX10_tellPerson_72 : decode cX10_tellPerson 72 = .ok (.iconst 1, 1) := by decide +kernel
theorem dX10_tellPerson_73 : decode cX10_tellPerson 73 = .ok (.iconst (-1), 1) := by decide +kernel
theorem dX10_tellPerson_74 : decode cX10_tellPerson 74 = .ok (.invokevirtual 70, 3) := by decide +kernel
theorem dX10_tellPerson_77 : decode cX10_tellPerson 77 = .ok (.ifCond .ne 5, 3) := by decide +kernel
theorem dX10_tellPerson_80 : decode cX10_tellPerson 80 = .ok (.iconst 0, 1) := by decide +kernel
theorem dX10_tellPerson_81 : decode cX10_tellPerson 81 = .ok (.ireturn, 1) := by decide +kernel
theorem dX10_tellPerson_82 : decode cX10_tellPerson 82 = .ok (.aload_n 1, 1) := by decide +kernel
theorem dX10_tellPerson_83 : decode cX10_tellPerson 83 = .ok (.dup, 1) := by decide +kernel
theorem dX10_tellPerson_84 : decode cX10_tellPerson 84 = .ok (.getfield 100, 3) := by decide +kernel
theorem dX10_tellPerson_87 : decode cX10_tellPerson 87 = .ok (.aload_n 0, 1) := by decide +kernel
theorem dX10_tellPerson_88 : decode cX10_tellPerson 88 = .ok (.getfield 9, 3) := by decide +kernel
theorem dX10_tellPerson_91 : decode cX10_tellPerson 91 = .ok (.getfield 74, 3) := by decide +kernel
theorem dX10_tellPerson_94 : decode cX10_tellPerson 94 = .ok (.iload_n 2, 1) := by decide +kernel
theorem dX10_tellPerson_95 : decode cX10_tellPerson 95 = .ok (.ishl, 1) := by decide +kernel
theorem dX10_tellPerson_96 : decode cX10_tellPerson 96 = .ok (.ior, 1) := by decide +kernel
theorem dX10_tellPerson_97 : decode cX10_tellPerson 97 = .ok (.putfield 100, 3) := by decide +kernel
theorem dX10_tellPerson_100 : decode cX10_tellPerson 100 = .ok (.aload_n 1, 1) := by decide +kernel
theorem dX10_tellPerson_101 : decode cX10_tellPerson 101 = .ok (.dup, 1) := by decide +kernel
theorem dX10_tellPerson_102 : decode cX10_tellPerson 102 = .ok (.getfield 64, 3) := by decide +kernel
theorem dX10_tellPerson_105 : decode cX10_tellPerson 105 = .ok (.iconst 1, 1) := by decide +kernel
theorem dX10_tellPerson_106 : decode cX10_tellPerson 106 = .ok (.iadd, 1) := by decide +kernel
theorem dX10_tellPerson_107 : decode cX10_tellPerson 107 = .ok (.putfield 64, 3) := by decide +kernel
theorem dX10_tellPerson_110 : decode cX10_tellPerson 110 = .ok (.iconst 1, 1) := by decide +kernel
theorem dX10_tellPerson_111 : decode cX10_tellPerson 111 = .ok (.ireturn, 1) := by decide +kernel
theorem dX10_tellStranger_0 : decode cX10_tellStranger 0 = .ok (.aload_n 1, 1) := by decide +kernel
theorem dX10_tellStranger_1 : decode cX10_tellStranger 1 = .ok (.getfield 67, 3) := by decide +kernel
theorem dX10_tellStranger_4 : decode cX10_tellStranger 4 = .ok (.istore_n 2, 1) := by decide +kernel
theorem dX10_tellStranger_5 : decode cX10_tellStranger 5 = .ok (.aload_n 0, 1) := by decide +kernel
theorem dX10_tellStranger_6 : decode cX10_tellStranger 6 = .ok (.getfield 9, 3) := by decide +kernel
theorem dX10_tellStranger_9 : decode cX10_tellStranger 9 = .ok (.iconst 0, 1) := by decide +kernel
theorem dX10_tellStranger_10 : decode cX10_tellStranger 10 = .ok (.aload_n 1, 1) := by decide +kernel
theorem dX10_tellStranger_11 : decode cX10_tellStranger 11 = .ok (.getfield 77, 3) := by decide +kernel
theorem dX10_tellStranger_14 : decode cX10_tellStranger 14 = .ok (.iconst 1, 1) := by decide +kernel
theorem dX10_tellStranger_15 : decode cX10_tellStranger 15 = .ok (.isub, 1) := by decide +kernel
theorem dX10_tellStranger_16 : decode cX10_tellStranger 16 = .ok (.iconst (-1), 1) := by decide +kernel
theorem dX10_tellStranger_17 : decode cX10_tellStranger 17 = .ok (.invokevirtual 70, 3) := by decide +kernel
theorem dX10_tellStranger_20 : decode cX10_tellStranger 20 = .ok (.ifCond .ne 5, 3) := by decide +kernel
theorem dX10_tellStranger_23 : decode cX10_tellStranger 23 = .ok (.iconst 0, 1) := by decide +kernel
theorem dX10_tellStranger_24 : decode cX10_tellStranger 24 = .ok (.ireturn, 1) := by decide +kernel
theorem dX10_tellStranger_25 : decode cX10_tellStranger 25 = .ok (.aload_n 0, 1) := by decide +kernel
theorem dX10_tellStranger_26 : decode cX10_tellStranger 26 = .ok (.getfield 9, 3) := by decide +kernel
theorem dX10_tellStranger_29 : decode cX10_tellStranger 29 = .ok (.getfield 74, 3) := by decide +kernel
theorem dX10_tellStranger_32 : decode cX10_tellStranger 32 = .ok (.istore_n 3, 1) := by decide +kernel
theorem dX10_tellStranger_33 : decode cX10_tellStranger 33 = .ok (.aload_n 1, 1) := by decide +kernel
theorem dX10_tellStranger_34 : decode cX10_tellStranger 34 = .ok (.getfield 103, 3) := by decide +kernel
theorem dX10_tellStranger_37 : decode cX10_tellStranger 37 = .ok (.iload_n 2, 1) := by decide +kernel
theorem dX10_tellStranger_38 : decode cX10_tellStranger 38 = .ok (.iload_n 3, 1) := by decide +kernel
theorem dX10_tellStranger_39 : decode cX10_tellStranger 39 = .ok (.iastore, 1) := by decide +kernel
theorem dX10_tellStranger_40 : decode cX10_tellStranger 40 = .ok (.aload_n 0, 1) := by decide +kernel
theorem dX10_tellStranger_41 : decode cX10_tellStranger 41 = .ok (.getfield 9, 3) := by decide +kernel
theorem dX10_tellStranger_44 : decode cX10_tellStranger 44 = .ok (.iconst 0, 1) := by decide +kernel
theorem dX10_tellStranger_45 : decode cX10_tellStranger 45 = .ok (.aload_n 1, 1) := by decide +kernel
theorem dX10_tellStranger_46 : decode cX10_tellStranger 46 = .ok (.getfield 77, 3) := by decide +kernel
theorem dX10_tellStranger_49 : decode cX10_tellStranger 49 = .ok (.iconst 1, 1) := by decide +kernel
theorem dX10_tellStranger_50 : decode cX10_tellStranger 50 = .ok (.isub, 1) := by decide +kernel
theorem dX10_tellStranger_51 : decode cX10_tellStranger 51 = .ok (.iload_n 3, 1) := by decide +kernel
theorem dX10_tellStranger_52 : decode cX10_tellStranger 52 = .ok (.invokevirtual 70, 3) := by decide +kernel
theorem dX10_tellStranger_55 : decode cX10_tellStranger 55 = .ok (.ifCond .ne 5, 3) := by decide +kernel
theorem dX10_tellStranger_58 : decode cX10_tellStranger 58 = .ok (.iconst 0, 1) := by decide +kernel
theorem dX10_tellStranger_59 : decode cX10_tellStranger 59 = .ok (.ireturn, 1) := by decide +kernel
theorem dX10_tellStranger_60 : decode cX10_tellStranger 60 = .ok (.aload_n 1, 1) := by decide +kernel
theorem dX10_tellStranger_61 : decode cX10_tellStranger 61 = .ok (.getfield 106, 3) := by decide +kernel
theorem dX10_tellStranger_64 : decode cX10_tellStranger 64 = .ok (.iload_n 2, 1) := by decide +kernel
theorem dX10_tellStranger_65 : decode cX10_tellStranger 65 = .ok (.aload_n 0, 1) := by decide +kernel
theorem dX10_tellStranger_66 : decode cX10_tellStranger 66 = .ok (.getfield 9, 3) := by decide +kernel
theorem dX10_tellStranger_69 : decode cX10_tellStranger 69 = .ok (.getfield 74, 3) := by decide +kernel
theorem dX10_tellStranger_72 : decode cX10_tellStranger 72 = .ok (.iastore, 1) := by decide +kernel
theorem dX10_tellStranger_73 : decode cX10_tellStranger 73 = .ok (.aload_n 0, 1) := by decide +kernel
theorem dX10_tellStranger_74 : decode cX10_tellStranger 74 = .ok (.getfield 9, 3) := by decide +kernel
theorem dX10_tellStranger_77 : decode cX10_tellStranger 77 = .ok (.iconst 1, 1) := by decide +kernel
theorem dX10_tellStranger_78 : decode cX10_tellStranger 78 = .ok (.bipush 20, 2) := by decide +kernel
theorem dX10_tellStranger_80 : decode cX10_tellStranger 80 = .ok (.iconst (-1), 1) := by decide +kernel
theorem dX10_tellStranger_81 : decode cX10_tellStranger 81 = .ok (.invokevirtual 70, 3) := by decide +kernel
theorem dX10_tellStranger_84 : decode cX10_tellStranger 84 = .ok (.ifCond .ne 5, 3) := by decide +kernel
theorem dX10_tellStranger_87 : decode cX10_tellStranger 87 = .ok (.iconst 0, 1) := by decide +kernel
theorem dX10_tellStranger_88 : decode cX10_tellStranger 88 = .ok (.ireturn, 1) := by decide +kernel
theorem dX10_tellStranger_89 : decode cX10_tellStranger 89 = .ok (.aload_n 1, 1) := by decide +kernel
theorem dX10_tellStranger_90 : decode cX10_tellStranger 90 = .ok (.getfield 109, 3) := by decide +kernel
theorem dX10_tellStranger_93 : decode cX10_tellStranger 93 = .ok (.iload_n 2, 1) := by decide +kernel
theorem dX10_tellStranger_94 : decode cX10_tellStranger 94 = .ok (.aload_n 0, 1) := by decide +kernel
theorem dX10_tellStranger_95 : decode cX10_tellStranger 95 = .ok (.getfield 9, 3) := by decide +kernel
theorem dX10_tellStranger_98 : decode cX10_tellStranger 98 = .ok (.getfield 74, 3) := by decide +kernel
theorem dX10_tellStranger_101 : decode cX10_tellStranger 101 = .ok (.iastore, 1) := by decide +kernel
theorem dX10_tellStranger_102 : decode cX10_tellStranger 102 = .ok (.aload_n 1, 1) := by decide +kernel
theorem dX10_tellStranger_103 : decode cX10_tellStranger 103 = .ok (.dup, 1) := by decide +kernel
theorem dX10_tellStranger_104 : decode cX10_tellStranger 104 = .ok (.getfield 67, 3) := by decide +kernel
theorem dX10_tellStranger_107 : decode cX10_tellStranger 107 = .ok (.iconst 1, 1) := by decide +kernel
theorem dX10_tellStranger_108 : decode cX10_tellStranger 108 = .ok (.iadd, 1) := by decide +kernel
theorem dX10_tellStranger_109 : decode cX10_tellStranger 109 = .ok (.putfield 67, 3) := by decide +kernel
theorem dX10_tellStranger_112 : decode cX10_tellStranger 112 = .ok (.iconst 1, 1) := by decide +kernel
theorem dX10_tellStranger_113 : decode cX10_tellStranger 113 = .ok (.ireturn, 1) := by decide +kernel
theorem dX11_init_0 : decode cX11_init 0 = .ok (.aload_n 0, 1) := by decide +kernel
theorem dX11_init_1 : decode cX11_init 1 = .ok (.invokespecial 3, 3) := by decide +kernel
theorem dX11_init_4 : decode cX11_init 4 = .ok (.aload_n 0, 1) := by decide +kernel
theorem dX11_init_5 : decode cX11_init 5 = .ok (.bipush 64, 2) := by decide +kernel
theorem dX11_init_7 : decode cX11_init 7 = .ok (.newarray .int, 2) := by decide +kernel
theorem dX11_init_9 : decode cX11_init 9 = .ok (.putfield 9, 3) := by decide +kernel
theorem dX11_init_12 : decode cX11_init 12 = .ok (.aload_n 0, 1) := by decide +kernel
theorem dX11_init_13 : decode cX11_init 13 = .ok (.lconst 0, 1) := by decide +kernel
theorem dX11_init_14 : decode cX11_init 14 = .ok (.invokevirtual 15, 3) := by decide +kernel
theorem dX11_init_17 : decode cX11_init 17 = .ok (.return_, 1) := by decide +kernel
theorem dX11_street_0 : decode cX11_street 0 = .ok (.iload_n 0, 1) := by decide +kernel
theorem dX11_street_1 : decode cX11_street 1 = .ok (.iload_n 1, 1) := by decide +kernel
theorem dX11_street_2 : decode cX11_street 2 = .ok (.if_icmp .ne 7, 3) := by decide +kernel
theorem dX11_street_5 : decode cX11_street 5 = .ok (.lconst 0, 1) := by decide +kernel
theorem dX11_street_6 : decode cX11_street 6 = .ok (.goto 20, 3) := by decide +kernel
theorem dX11_street_9 : decode cX11_street 9 = .ok (.lconst 1, 1) := by decide +kernel
theorem dX11_street_10 : decode cX11_street 10 = .ok (.iload_n 0, 1) := by decide +kernel
theorem dX11_street_11 : decode cX11_street 11 = .ok (.bipush 8, 2) := by decide +kernel
theorem dX11_street_13 : decode cX11_street 13 = .ok (.imul, 1) := by decide +kernel
theorem dX11_street_14 : decode cX11_street 14 = .ok (.iload_n 1, 1) := by decide +kernel
theorem dX11_street_15 : decode cX11_street 15 = .ok (.iadd, 1) := by decide +kernel
theorem dX11_street_16 : decode cX11_street 16 = .ok (.lshl, 1) := by decide +kernel
theorem dX11_street_17 : decode cX11_street 17 = .ok (.lconst 1, 1) := by decide +kernel
theorem dX11_street_18 : decode cX11_street 18 = .ok (.iload_n 1, 1) := by decide +kernel
theorem dX11_street_19 : decode cX11_street 19 = .ok (.bipush 8, 2) := by decide +kernel
theorem dX11_street_21 : decode cX11_street 21 = .ok (.imul, 1) := by decide +kernel
theorem dX11_street_22 : decode cX11_street 22 = .ok (.iload_n 0, 1) := by decide +kernel
theorem dX11_street_23 : decode cX11_street 23 = .ok (.iadd, 1) := by decide +kernel
theorem dX11_street_24 : decode cX11_street 24 = .ok (.lshl, 1) := by decide +kernel
theorem dX11_street_25 : decode cX11_street 25 = .ok (.lor, 1) := by decide +kernel
theorem dX11_street_26 : decode cX11_street 26 = .ok (.lreturn, 1) := by decide +kernel
theorem dX11_neighbours_0 : decode cX11_neighbours 0 = .ok (.lload_n 0, 1) := by decide +kernel
theorem dX11_neighbours_1 : decode cX11_neighbours 1 = .ok (.iload_n 2, 1) := by decide +kernel
theorem dX11_neighbours_2 : decode cX11_neighbours 2 = .ok (.bipush 8, 2) := by decide +kernel
theorem dX11_neighbours_4 : decode cX11_neighbours 4 = .ok (.imul, 1) := by decide +kernel
theorem dX11_neighbours_5 : decode cX11_neighbours 5 = .ok (.lushr, 1) := by decide +kernel
theorem dX11_neighbours_6 : decode cX11_neighbours 6 = .ok (.l2i, 1) := by decide +kernel
theorem dX11_neighbours_7 : decode cX11_neighbours 7 = .ok (.sipush 255, 3) := by decide +kernel
theorem dX11_neighbours_10 : decode cX11_neighbours 10 = .ok (.iand, 1) := by decide +kernel
theorem dX11_neighbours_11 : decode cX11_neighbours 11 = .ok (.ireturn, 1) := by decide +kernel
theorem dX11_follow_0 : decode cX11_follow 0 = .ok (.lload_n 1, 1) := by decide +kernel
theorem dX11_follow_1 : decode cX11_follow 1 = .ok (.aload_n 0, 1) := by decide +kernel
theorem dX11_follow_2 : decode cX11_follow 2 = .ok (.getfield 19, 3) := by decide +kernel
theorem dX11_follow_5 : decode cX11_follow 5 = .ok (.lcmp, 1) := by decide +kernel
theorem dX11_follow_6 : decode cX11_follow 6 = .ok (.ifCond .eq 8, 3) := by decide +kernel
theorem dX11_follow_9 : decode cX11_follow 9 = .ok (.aload_n 0, 1) := by decide +kernel
theorem dX11_follow_10 : decode cX11_follow 10 = .ok (.lload_n 1, 1) := by decide +kernel
theorem dX11_follow_11 : decode cX11_follow 11 = .ok (.invokevirtual 15, 3) := by decide +kernel
theorem dX11_follow_14 : decode cX11_follow 14 = .ok (.return_, 1) := by decide +kernel
theorem dX11_measure_0 : decode cX11_measure 0 = .ok (.aload_n 0, 1) := by decide +kernel
theorem dX11_measure_1 : decode cX11_measure 1 = .ok (.lload_n 1, 1) := by decide +kernel
theorem dX11_measure_2 : decode cX11_measure 2 = .ok (.putfield 19, 3) := by decide +kernel
theorem dX11_measure_5 : decode cX11_measure 5 = .ok (.aload_n 0, 1) := by decide +kernel
theorem dX11_measure_6 : decode cX11_measure 6 = .ok (.getfield 9, 3) := by decide +kernel
theorem dX11_measure_9 : decode cX11_measure 9 = .ok (.bipush 99, 2) := by decide +kernel
theorem dX11_measure_11 : decode cX11_measure 11 = .ok (.invokestatic 23, 3) := by decide +kernel
theorem dX11_measure_14 : decode cX11_measure 14 = .ok (.iconst 0, 1) := by decide +kernel
theorem dX11_measure_15 : decode cX11_measure 15 = .ok (.istore_n 3, 1) := by decide +kernel
theorem dX11_measure_16 : decode cX11_measure 16 = .ok (.iload_n 3, 1) := by decide +kernel
theorem dX11_measure_17 : decode cX11_measure 17 = .ok (.bipush 8, 2) := by decide +kernel
theorem dX11_measure_19 : decode cX11_measure 19 = .ok (.if_icmp .ge 109, 3) := by decide +kernel
theorem dX11_measure_22 : decode cX11_measure 22 = .ok (.iconst 0, 1) := by decide +kernel
theorem dX11_measure_23 : decode cX11_measure 23 = .ok (.istore 4, 2) := by decide +kernel
theorem dX11_measure_25 : decode cX11_measure 25 = .ok (.iconst 1, 1) := by decide +kernel
theorem dX11_measure_26 : decode cX11_measure 26 = .ok (.iload_n 3, 1) := by decide +kernel
theorem dX11_measure_27 : decode cX11_measure 27 = .ok (.ishl, 1) := by decide +kernel
theorem dX11_measure_28 : decode cX11_measure 28 = .ok (.istore 5, 2) := by decide +kernel
theorem dX11_measure_30 : decode cX11_measure 30 = .ok (.iconst 0, 1) := by decide +kernel
theorem dX11_measure_31 : decode cX11_measure 31 = .ok (.istore 6, 2) := by decide +kernel
theorem dX11_measure_33 : decode cX11_measure 33 = .ok (.iload 6, 2) := by decide +kernel
theorem dX11_measure_35 : decode cX11_measure 35 = .ok (.bipush 8, 2) := by decide +kernel
theorem dX11_measure_37 : decode cX11_measure 37 = .ok (.if_icmp .ge 85, 3) := by decide +kernel
theorem dX11_measure_40 : decode cX11_measure 40 = .ok (.iload 5, 2) := by decide +kernel
theorem dX11_measure_42 : decode cX11_measure 42 = .ok (.ifCond .eq 80, 3) := by decide +kernel
theorem dX11_measure_45 : decode cX11_measure 45 = .ok (.iconst 0, 1) := by decide +kernel
theorem dX11_measure_46 : decode cX11_measure 46 = .ok (.istore 7, 2) := by decide +kernel
theorem dX11_measure_48 : decode cX11_measure 48 = .ok (.iconst 0, 1) := by decide +kernel
theorem dX11_measure_49 : decode cX11_measure 49 = .ok (.istore 8, 2) := by decide +kernel
theorem dX11_measure_51 : decode cX11_measure 51 = .ok (.iload 8, 2) := by decide +kernel
theorem dX11_measure_53 : decode cX11_measure 53 = .ok (.bipush 8, 2) := by decide +kernel
theorem dX11_measure_55 : decode cX11_measure 55 = .ok (.if_icmp .ge 45, 3) := by decide +kernel
theorem dX11_measure_58 : decode cX11_measure 58 = .ok (.iload 5, 2) := by decide +kernel
theorem dX11_measure_60 : decode cX11_measure 60 = .ok (.iload 8, 2) := by decide +kernel
theorem dX11_measure_62 : decode cX11_measure 62 = .ok (.ishr, 1) := by decide +kernel
theorem dX11_measure_63 : decode cX11_measure 63 = .ok (.iconst 1, 1) := by decide +kernel
theorem dX11_measure_64 : decode cX11_measure 64 = .ok (.iand, 1) := by decide +kernel
theorem dX11_measure_65 : decode cX11_measure 65 = .ok (.iconst 1, 1) := by decide +kernel
theorem dX11_measure_66 : decode cX11_measure 66 = .ok (.if_icmp .ne 28, 3) := by decide +kernel
theorem dX11_measure_69 : decode cX11_measure 69 = .ok (.aload_n 0, 1) := by decide +kernel
theorem dX11_measure_70 : decode cX11_measure 70 = .ok (.getfield 9, 3) := by decide +kernel
theorem dX11_measure_73 : decode cX11_measure 73 = .ok (.iload_n 3, 1) := by decide +kernel
theorem dX11_measure_74 : decode cX11_measure 74 = .ok (.bipush 8, 2) := by decide +kernel
theorem dX11_measure_76 : decode cX11_measure 76 = .ok (.imul, 1) := by decide +kernel
theorem dX11_measure_77 : decode cX11_measure 77 = .ok (.iload 8, 2) := by decide +kernel
theorem dX11_measure_79 : decode cX11_measure 79 = .ok (.iadd, 1) := by decide +kernel
theorem dX11_measure_80 : decode cX11_measure 80 = .ok (.iload 6, 2) := by decide +kernel
theorem dX11_measure_82 : decode cX11_measure 82 = .ok (.iastore, 1) := by decide +kernel
theorem dX11_measure_83 : decode cX11_measure 83 = .ok (.iload 7, 2) := by decide +kernel
theorem dX11_measure_85 : decode cX11_measure 85 = .ok (.lload_n 1, 1) := by decide +kernel
theorem dX11_measure_86 : decode cX11_measure 86 = .ok (.iload 8, 2) := by decide +kernel
theorem dX11_measure_88 : decode cX11_measure 88 = .ok (.invokestatic 29, 3) := by decide +kernel
theorem dX11_measure_91 : decode cX11_measure 91 = .ok (.ior, 1) := by decide +kernel
theorem dX11_measure_92 : decode cX11_measure 92 = .ok (.istore 7, 2) := by decide +kernel
theorem dX11_measure_94 : decode cX11_measure 94 = .ok (.iinc 8 1, 3) := by decide +kernel
theorem dX11_measure_97 : decode cX11_measure 97 = .ok (.goto (-46), 3) := by decide +kernel
theorem dX11_measure_100 : decode cX11_measure 100 = .ok (.iload 4, 2) := by decide +kernel
theorem dX11_measure_102 : decode cX11_measure 102 = .ok (.iload 5, 2) := by decide +kernel
theorem dX11_measure_104 : decode cX11_measure 104 = .ok (.ior, 1) := by decide +kernel
theorem dX11_measure_105 : decode cX11_measure 105 = .ok (.istore 4, 2) := by decide +kernel
theorem dX11_measure_107 : decode cX11_measure 107 = .ok (.iload 7, 2) := by decide +kernel
theorem dX11_measure_109 : decode cX11_measure 109 = .ok (.iload 4, 2) := by decide +kernel
theorem dX11_measure_111 : decode cX11_measure 111 = .ok (.iconst (-1), 1) := by decide +kernel
theorem dX11_measure_112 : decode cX11_measure 112 = .ok (.ixor, 1) := by decide +kernel
theorem dX11_measure_113 : decode cX11_measure 113 = .ok (.iand, 1) := by decide +kernel
theorem dX11_measure_114 : decode cX11_measure 114 = .ok (.istore 5, 2) := by decide +kernel
theorem dX11_measure_116 : decode cX11_measure 116 = .ok (.iinc 6 1, 3) := by decide +kernel
theorem dX11_measure_119 : decode cX11_measure 119 = .ok (.goto (-86), 3) := by decide +kernel
theorem dX11_measure_122 : decode cX11_measure 122 = .ok (.iinc 3 1, 3) := by decide +kernel
theorem dX11_measure_125 : decode cX11_measure 125 = .ok (.goto (-109), 3) := by decide +kernel
theorem dX11_measure_128 : decode cX11_measure 128 = .ok (.return_, 1) := by decide +kernel
theorem dX11_far_0 : decode cX11_far 0 = .ok (.iload_n 1, 1) := by decide +kernel
theorem dX11_far_1 : decode cX11_far 1 = .ok (.ifCond .lt 23, 3) := by decide +kernel
theorem dX11_far_4 : decode cX11_far 4 = .ok (.iload_n 1, 1) := by decide +kernel
theorem dX11_far_5 : decode cX11_far 5 = .ok (.bipush 8, 2) := by decide +kernel
theorem dX11_far_7 : decode cX11_far 7 = .ok (.if_icmp .ge 17, 3) := by decide +kernel
theorem dX11_far_10 : decode cX11_far 10 = .ok (.iload_n 2, 1) := by decide +kernel
theorem dX11_far_11 : decode cX11_far 11 = .ok (.ifCond .lt 13, 3) := by decide +kernel
theorem dX11_far_14 : decode cX11_far 14 = .ok (.iload_n 2, 1) := by decide +kernel
theorem dX11_far_15 : decode cX11_far 15 = .ok (.bipush 8, 2) := by decide +kernel
theorem dX11_far_17 : decode cX11_far 17 = .ok (.if_icmp .ge 7, 3) := by decide +kernel
theorem dX11_far_20 : decode cX11_far 20 = .ok (.iconst 1, 1) := by decide +kernel
theorem dX11_far_21 : decode cX11_far 21 = .ok (.goto 4, 3) := by decide +kernel
theorem dX11_far_24 : decode cX11_far 24 = .ok (.iconst 0, 1) := by decide +kernel
theorem dX11_far_25 : decode cX11_far 25 = .ok (.istore_n 3, 1) := by decide +kernel
theorem dX11_far_26 : decode cX11_far 26 = .ok (.iload_n 3, 1) := by decide +kernel
theorem dX11_far_27 : decode cX11_far 27 = .ok (.ifCond .eq 17, 3) := by decide +kernel
theorem dX11_far_30 : decode cX11_far 30 = .ok (.aload_n 0, 1) := by decide +kernel
theorem dX11_far_31 : decode cX11_far 31 = .ok (.getfield 9, 3) := by decide +kernel
theorem dX11_far_34 : decode cX11_far 34 = .ok (.iload_n 1, 1) := by decide +kernel
theorem dX11_far_35 : decode cX11_far 35 = .ok (.bipush 8, 2) := by decide +kernel
theorem dX11_far_37 : decode cX11_far 37 = .ok (.imul, 1) := by decide +kernel
theorem dX11_far_38 : decode cX11_far 38 = .ok (.iload_n 2, 1) := by decide +kernel
theorem dX11_far_39 : decode cX11_far 39 = .ok (.iadd, 1) := by decide +kernel
theorem dX11_far_40 : decode cX11_far 40 = .ok (.iaload, 1) := by decide +kernel
theorem dX11_far_41 : decode cX11_far 41 = .ok (.goto 5, 3) := by decide +kernel
theorem dX11_far_44 : decode cX11_far 44 = .ok (.bipush 99, 2) := by decide +kernel
theorem dX11_far_46 : decode cX11_far 46 = .ok (.ireturn, 1) := by decide +kernel
theorem dX11_step_0 : decode cX11_step 0 = .ok (.aload_n 0, 1) := by decide +kernel
theorem dX11_step_1 : decode cX11_step 1 = .ok (.iload_n 1, 1) := by decide +kernel
theorem dX11_step_2 : decode cX11_step 2 = .ok (.iload_n 2, 1) := by decide +kernel
theorem dX11_step_3 : decode cX11_step 3 = .ok (.invokevirtual 33, 3) := by decide +kernel
theorem dX11_step_6 : decode cX11_step 6 = .ok (.istore_n 3, 1) := by decide +kernel
theorem dX11_step_7 : decode cX11_step 7 = .ok (.iload_n 3, 1) := by decide +kernel
theorem dX11_step_8 : decode cX11_step 8 = .ok (.bipush 99, 2) := by decide +kernel
theorem dX11_step_10 : decode cX11_step 10 = .ok (.if_icmp .ne 5, 3) := by decide +kernel
theorem dX11_step_13 : decode cX11_step 13 = .ok (.iload_n 1, 1) := by decide +kernel
theorem dX11_step_14 : decode cX11_step 14 = .ok (.ireturn, 1) := by decide +kernel
theorem dX11_step_15 : decode cX11_step 15 = .ok (.aload_n 0, 1) := by decide +kernel
theorem dX11_step_16 : decode cX11_step 16 = .ok (.getfield 19, 3) := by decide +kernel
theorem dX11_step_19 : decode cX11_step 19 = .ok (.iload_n 1, 1) := by decide +kernel
theorem dX11_step_20 : decode cX11_step 20 = .ok (.invokestatic 29, 3) := by decide +kernel
theorem dX11_step_23 : decode cX11_step 23 = .ok (.istore 4, 2) := by decide +kernel
theorem dX11_step_25 : decode cX11_step 25 = .ok (.iconst 0, 1) := by decide +kernel
theorem dX11_step_26 : decode cX11_step 26 = .ok (.istore 5, 2) := by decide +kernel
theorem dX11_step_28 : decode cX11_step 28 = .ok (.iload 5, 2) := by decide +kernel
theorem dX11_step_30 : decode cX11_step 30 = .ok (.bipush 8, 2) := by decide +kernel
theorem dX11_step_32 : decode cX11_step 32 = .ok (.if_icmp .ge 36, 3) := by decide +kernel
theorem dX11_step_35 : decode cX11_step 35 = .ok (.iload 4, 2) := by decide +kernel
theorem dX11_step_37 : decode cX11_step 37 = .ok (.iload 5, 2) := by decide +kernel
theorem dX11_step_39 : decode cX11_step 39 = .ok (.ishr, 1) := by decide +kernel
theorem dX11_step_40 : decode cX11_step 40 = .ok (.iconst 1, 1) := by decide +kernel
theorem dX11_step_41 : decode cX11_step 41 = .ok (.iand, 1) := by decide +kernel
theorem dX11_step_42 : decode cX11_step 42 = .ok (.iconst 1, 1) := by decide +kernel
theorem dX11_step_43 : decode cX11_step 43 = .ok (.if_icmp .ne 19, 3) := by decide +kernel
theorem dX11_step_46 : decode cX11_step 46 = .ok (.aload_n 0, 1) := by decide +kernel
theorem dX11_step_47 : decode cX11_step 47 = .ok (.iload 5, 2) := by decide +kernel
theorem dX11_step_49 : decode cX11_step 49 = .ok (.iload_n 2, 1) := by decide +kernel
theorem dX11_step_50 : decode cX11_step 50 = .ok (.invokevirtual 33, 3) := by decide +kernel
theorem dX11_step_53 : decode cX11_step 53 = .ok (.iload_n 3, 1) := by decide +kernel
theorem dX11_step_54 : decode cX11_step 54 = .ok (.iconst 1, 1) := by decide +kernel
theorem dX11_step_55 : decode cX11_step 55 = .ok (.isub, 1) := by decide +kernel
theorem dX11_step_56 : decode cX11_step 56 = .ok (.if_icmp .ne 6, 3) := by decide +kernel
theorem dX11_step_59 : decode cX11_step 59 = .ok (.iload 5, 2) := by decide +kernel
theorem dX11_step_61 : decode cX11_step 61 = .ok (.ireturn, 1) := by decide +kernel
theorem dX11_step_62 : decode cX11_step 62 = .ok (.iinc 5 1, 3) := by decide +kernel
theorem dX11_step_65 : decode cX11_step 65 = .ok (.goto (-37), 3) := by decide +kernel
theorem dX11_step_68 : decode cX11_step 68 = .ok (.iload_n 1, 1) := by decide +kernel
theorem dX11_step_69 : decode cX11_step 69 = .ok (.ireturn, 1) := by decide +kernel
theorem dX11_least_0 : decode cX11_least 0 = .ok (.iconst 0, 1) := by decide +kernel
theorem dX11_least_1 : decode cX11_least 1 = .ok (.istore_n 2, 1) := by decide +kernel
theorem dX11_least_2 : decode cX11_least 2 = .ok (.iload_n 2, 1) := by decide +kernel
theorem dX11_least_3 : decode cX11_least 3 = .ok (.bipush 8, 2) := by decide +kernel
theorem dX11_least_5 : decode cX11_least 5 = .ok (.if_icmp .ge 20, 3) := by decide +kernel
theorem dX11_least_8 : decode cX11_least 8 = .ok (.iload_n 0, 1) := by decide +kernel
theorem dX11_least_9 : decode cX11_least 9 = .ok (.iload_n 2, 1) := by decide +kernel
theorem dX11_least_10 : decode cX11_least 10 = .ok (.ishr, 1) := by decide +kernel
theorem dX11_least_11 : decode cX11_least 11 = .ok (.iconst 1, 1) := by decide +kernel
theorem dX11_least_12 : decode cX11_least 12 = .ok (.iand, 1) := by decide +kernel
theorem dX11_least_13 : decode cX11_least 13 = .ok (.iconst 1, 1) := by decide +kernel
theorem dX11_least_14 : decode cX11_least 14 = .ok (.if_icmp .ne 5, 3) := by decide +kernel
theorem dX11_least_17 : decode cX11_least 17 = .ok (.iload_n 2, 1) := by decide +kernel
theorem dX11_least_18 : decode cX11_least 18 = .ok (.ireturn, 1) := by decide +kernel
theorem dX11_least_19 : decode cX11_least 19 = .ok (.iinc 2 1, 3) := by decide +kernel
theorem dX11_least_22 : decode cX11_least 22 = .ok (.goto (-20), 3) := by decide +kernel
theorem dX11_least_25 : decode cX11_least 25 = .ok (.iload_n 1, 1) := by decide +kernel
theorem dX11_least_26 : decode cX11_least 26 = .ok (.ireturn, 1) := by decide +kernel
theorem dX11_greatest_0 : decode cX11_greatest 0 = .ok (.bipush 7, 2) := by decide +kernel
theorem dX11_greatest_2 : decode cX11_greatest 2 = .ok (.istore_n 2, 1) := by decide +kernel
theorem dX11_greatest_3 : decode cX11_greatest 3 = .ok (.iload_n 2, 1) := by decide +kernel
theorem dX11_greatest_4 : decode cX11_greatest 4 = .ok (.ifCond .lt 20, 3) := by decide +kernel
theorem dX11_greatest_7 : decode cX11_greatest 7 = .ok (.iload_n 0, 1) := by decide +kernel
theorem dX11_greatest_8 : decode cX11_greatest 8 = .ok (.iload_n 2, 1) := by decide +kernel
theorem dX11_greatest_9 : decode cX11_greatest 9 = .ok (.ishr, 1) := by decide +kernel
theorem dX11_greatest_10 : decode cX11_greatest 10 = .ok (.iconst 1, 1) := by decide +kernel
theorem dX11_greatest_11 : decode cX11_greatest 11 = .ok (.iand, 1) := by decide +kernel
theorem dX11_greatest_12 : decode cX11_greatest 12 = .ok (.iconst 1, 1) := by decide +kernel
theorem dX11_greatest_13 : decode cX11_greatest 13 = .ok (.if_icmp .ne 5, 3) := by decide +kernel
theorem dX11_greatest_16 : decode cX11_greatest 16 = .ok (.iload_n 2, 1) := by decide +kernel
theorem dX11_greatest_17 : decode cX11_greatest 17 = .ok (.ireturn, 1) := by decide +kernel
theorem dX11_greatest_18 : decode cX11_greatest 18 = .ok (.iinc 2 (-1), 3) := by decide +kernel
theorem dX11_greatest_21 : decode cX11_greatest 21 = .ok (.goto (-18), 3) := by decide +kernel
theorem dX11_greatest_24 : decode cX11_greatest 24 = .ok (.iload_n 1, 1) := by decide +kernel
theorem dX11_greatest_25 : decode cX11_greatest 25 = .ok (.ireturn, 1) := by decide +kernel
theorem dX12_init_0 : decode cX12_init 0 = .ok (.aload_n 0, 1) := by decide +kernel
theorem dX12_init_1 : decode cX12_init 1 = .ok (.invokespecial 1, 3) := by decide +kernel
theorem dX12_init_4 : decode cX12_init 4 = .ok (.new 7, 3) := by decide +kernel
theorem dX12_init_7 : decode cX12_init 7 = .ok (.dup, 1) := by decide +kernel
theorem dX12_init_8 : decode cX12_init 8 = .ok (.invokespecial 9, 3) := by decide +kernel
theorem dX12_init_11 : decode cX12_init 11 = .ok (.astore_n 1, 1) := by decide +kernel
theorem dX12_init_12 : decode cX12_init 12 = .ok (.new 10, 3) := by decide +kernel
theorem dX12_init_15 : decode cX12_init 15 = .ok (.dup, 1) := by decide +kernel
theorem dX12_init_16 : decode cX12_init 16 = .ok (.invokespecial 12, 3) := by decide +kernel
theorem dX12_init_19 : decode cX12_init 19 = .ok (.astore_n 2, 1) := by decide +kernel
theorem dX12_init_20 : decode cX12_init 20 = .ok (.new 13, 3) := by decide +kernel
theorem dX12_init_23 : decode cX12_init 23 = .ok (.dup, 1) := by decide +kernel
theorem dX12_init_24 : decode cX12_init 24 = .ok (.invokespecial 15, 3) := by decide +kernel
theorem dX12_init_27 : decode cX12_init 27 = .ok (.astore_n 3, 1) := by decide +kernel
theorem dX12_init_28 : decode cX12_init 28 = .ok (.aload_n 0, 1) := by decide +kernel
theorem dX12_init_29 : decode cX12_init 29 = .ok (.aload_n 1, 1) := by decide +kernel
theorem dX12_init_30 : decode cX12_init 30 = .ok (.putfield 16, 3) := by decide +kernel
theorem dX12_init_33 : decode cX12_init 33 = .ok (.aload_n 0, 1) := by decide +kernel
theorem dX12_init_34 : decode cX12_init 34 = .ok (.new 22, 3) := by decide +kernel
theorem dX12_init_37 : decode cX12_init 37 = .ok (.dup, 1) := by decide +kernel
theorem dX12_init_38 : decode cX12_init 38 = .ok (.aload_n 1, 1) := by decide +kernel
theorem dX12_init_39 : decode cX12_init 39 = .ok (.invokespecial 24, 3) := by decide +kernel
theorem dX12_init_42 : decode cX12_init 42 = .ok (.putfield 27, 3) := by decide +kernel
theorem dX12_init_45 : decode cX12_init 45 = .ok (.aload_n 0, 1) := by decide +kernel
theorem dX12_init_46 : decode cX12_init 46 = .ok (.new 31, 3) := by decide +kernel
theorem dX12_init_49 : decode cX12_init 49 = .ok (.dup, 1) := by decide +kernel
theorem dX12_init_50 : decode cX12_init 50 = .ok (.aload_n 1, 1) := by decide +kernel
theorem dX12_init_51 : decode cX12_init 51 = .ok (.invokespecial 33, 3) := by decide +kernel
theorem dX12_init_54 : decode cX12_init 54 = .ok (.putfield 34, 3) := by decide +kernel
theorem dX12_init_57 : decode cX12_init 57 = .ok (.aload_n 0, 1) := by decide +kernel
theorem dX12_init_58 : decode cX12_init 58 = .ok (.bipush 6, 2) := by decide +kernel
theorem dX12_init_60 : decode cX12_init 60 = .ok (.anewarray 38, 3) := by decide +kernel
theorem dX12_init_63 : decode cX12_init 63 = .ok (.putfield 40, 3) := by decide +kernel
theorem dX12_init_66 : decode cX12_init 66 = .ok (.aload_n 0, 1) := by decide +kernel
theorem dX12_init_67 : decode cX12_init 67 = .ok (.iconst 0, 1) := by decide +kernel
theorem dX12_init_68 : decode cX12_init 68 = .ok (.putfield 44, 3) := by decide +kernel
theorem dX12_init_71 : decode cX12_init 71 = .ok (.aload_n 0, 1) := by decide +kernel
theorem dX12_init_72 : decode cX12_init 72 = .ok (.new 38, 3) := by decide +kernel
theorem dX12_init_75 : decode cX12_init 75 = .ok (.dup, 1) := by decide +kernel
theorem dX12_init_76 : decode cX12_init 76 = .ok (.invokespecial 48, 3) := by decide +kernel
theorem dX12_init_79 : decode cX12_init 79 = .ok (.putfield 49, 3) := by decide +kernel
theorem dX12_init_82 : decode cX12_init 82 = .ok (.aload_n 0, 1) := by decide +kernel
theorem dX12_init_83 : decode cX12_init 83 = .ok (.aload_n 2, 1) := by decide +kernel
theorem dX12_init_84 : decode cX12_init 84 = .ok (.putfield 53, 3) := by decide +kernel
theorem dX12_init_87 : decode cX12_init 87 = .ok (.aload_n 0, 1) := by decide +kernel
theorem dX12_init_88 : decode cX12_init 88 = .ok (.iconst 4, 1) := by decide +kernel
theorem dX12_init_89 : decode cX12_init 89 = .ok (.anewarray 10, 3) := by decide +kernel
theorem dX12_init_92 : decode cX12_init 92 = .ok (.putfield 57, 3) := by decide +kernel
theorem dX12_init_95 : decode cX12_init 95 = .ok (.aload_n 0, 1) := by decide +kernel
theorem dX12_init_96 : decode cX12_init 96 = .ok (.aload_n 3, 1) := by decide +kernel
theorem dX12_init_97 : decode cX12_init 97 = .ok (.putfield 61, 3) := by decide +kernel
theorem dX12_init_100 : decode cX12_init 100 = .ok (.aload_n 0, 1) := by decide +kernel
theorem dX12_init_101 : decode cX12_init 101 = .ok (.new 65, 3) := by decide +kernel
theorem dX12_init_104 : decode cX12_init 104 = .ok (.dup, 1) := by decide +kernel
theorem dX12_init_105 : decode cX12_init 105 = .ok (.aload_n 2, 1) := by decide +kernel
theorem dX12_init_106 : decode cX12_init 106 = .ok (.aload_n 3, 1) := by decide +kernel
theorem dX12_init_107 : decode cX12_init 107 = .ok (.invokespecial 67, 3) := by decide +kernel
theorem dX12_init_110 : decode cX12_init 110 = .ok (.putfield 70, 3) := by decide +kernel
theorem dX12_init_113 : decode cX12_init 113 = .ok (.aload_n 0, 1) := by decide +kernel
theorem dX12_init_114 : decode cX12_init 114 = .ok (.new 74, 3) := by decide +kernel
theorem dX12_init_117 : decode cX12_init 117 = .ok (.dup, 1) := by decide +kernel
theorem dX12_init_118 : decode cX12_init 118 = .ok (.aload_n 2, 1) := by decide +kernel
theorem dX12_init_119 : decode cX12_init 119 = .ok (.aload_n 3, 1) := by decide +kernel
theorem dX12_init_120 : decode cX12_init 120 = .ok (.invokespecial 76, 3) := by decide +kernel
theorem dX12_init_123 : decode cX12_init 123 = .ok (.putfield 77, 3) := by decide +kernel
theorem dX12_init_126 : decode cX12_init 126 = .ok (.return_, 1) := by decide +kernel
theorem dX12_feed_0 : decode cX12_feed 0 = .ok (.aload_n 0, 1) := by decide +kernel
theorem dX12_feed_1 : decode cX12_feed 1 = .ok (.getfield 16, 3) := by decide +kernel
theorem dX12_feed_4 : decode cX12_feed 4 = .ok (.getfield 81, 3) := by decide +kernel
theorem dX12_feed_7 : decode cX12_feed 7 = .ok (.bipush 20, 2) := by decide +kernel
theorem dX12_feed_9 : decode cX12_feed 9 = .ok (.iadd, 1) := by decide +kernel
theorem dX12_feed_10 : decode cX12_feed 10 = .ok (.sipush 400, 3) := by decide +kernel
theorem dX12_feed_13 : decode cX12_feed 13 = .ok (.if_icmp .le 5, 3) := by decide +kernel
theorem dX12_feed_16 : decode cX12_feed 16 = .ok (.iconst (-1), 1) := by decide +kernel
theorem dX12_feed_17 : decode cX12_feed 17 = .ok (.ireturn, 1) := by decide +kernel
theorem dX12_feed_18 : decode cX12_feed 18 = .ok (.aload_n 0, 1) := by decide +kernel
theorem dX12_feed_19 : decode cX12_feed 19 = .ok (.getfield 16, 3) := by decide +kernel
theorem dX12_feed_22 : decode cX12_feed 22 = .ok (.iload_n 1, 1) := by decide +kernel
theorem dX12_feed_23 : decode cX12_feed 23 = .ok (.invokevirtual 84, 3) := by decide +kernel
theorem dX12_feed_26 : decode cX12_feed 26 = .ok (.aload_n 0, 1) := by decide +kernel
theorem dX12_feed_27 : decode cX12_feed 27 = .ok (.getfield 16, 3) := by decide +kernel
theorem dX12_feed_30 : decode cX12_feed 30 = .ok (.iload_n 2, 1) := by decide +kernel
theorem dX12_feed_31 : decode cX12_feed 31 = .ok (.invokevirtual 84, 3) := by decide +kernel
theorem dX12_feed_34 : decode cX12_feed 34 = .ok (.aload_n 0, 1) := by decide +kernel
theorem dX12_feed_35 : decode cX12_feed 35 = .ok (.getfield 16, 3) := by decide +kernel
theorem dX12_feed_38 : decode cX12_feed 38 = .ok (.iload_n 3, 1) := by decide +kernel
theorem dX12_feed_39 : decode cX12_feed 39 = .ok (.invokevirtual 84, 3) := by decide +kernel
theorem dX12_feed_42 : decode cX12_feed 42 = .ok (.aload_n 0, 1) := by decide +kernel
theorem dX12_feed_43 : decode cX12_feed 43 = .ok (.getfield 16, 3) := by decide +kernel
theorem dX12_feed_46 : decode cX12_feed 46 = .ok (.iload 4, 2) := by decide +kernel
theorem dX12_feed_48 : decode cX12_feed 48 = .ok (.invokevirtual 84, 3) := by decide +kernel
theorem dX12_feed_51 : decode cX12_feed 51 = .ok (.aload_n 0, 1) := by decide +kernel
theorem dX12_feed_52 : decode cX12_feed 52 = .ok (.getfield 16, 3) := by decide +kernel
theorem dX12_feed_55 : decode cX12_feed 55 = .ok (.iload 5, 2) := by decide +kernel
theorem dX12_feed_57 : decode cX12_feed 57 = .ok (.invokevirtual 84, 3) := by decide +kernel
theorem dX12_feed_60 : decode cX12_feed 60 = .ok (.aload_n 0, 1) := by decide +kernel
theorem dX12_feed_61 : decode cX12_feed 61 = .ok (.getfield 16, 3) := by decide +kernel
theorem dX12_feed_64 : decode cX12_feed 64 = .ok (.getfield 81, 3) := by decide +kernel
theorem dX12_feed_67 : decode cX12_feed 67 = .ok (.ireturn, 1) := by decide +kernel
theorem dX12_end_0 : decode cX12_end 0 = .ok (.iload_n 1, 1) := by decide +kernel
theorem dX12_end_1 : decode cX12_end 1 = .ok (.ifCond .lt 14, 3) := by decide +kernel
theorem dX12_end_4 : decode cX12_end 4 = .ok (.iload_n 1, 1) := by decide +kernel
theorem dX12_end_5 : decode cX12_end 5 = .ok (.aload_n 0, 1) := by decide +kernel
theorem dX12_end_6 : decode cX12_end 6 = .ok (.getfield 16, 3) := by decide +kernel
theorem dX12_end_9 : decode cX12_end 9 = .ok (.getfield 81, 3) := by decide +kernel
theorem dX12_end_12 : decode cX12_end 12 = .ok (.if_icmp .le 5, 3) := by decide +kernel
theorem dX12_end_15 : decode cX12_end 15 = .ok (.iconst (-1), 1) := by decide +kernel
theorem dX12_end_16 : decode cX12_end 16 = .ok (.ireturn, 1) := by decide +kernel
theorem dX12_end_17 : decode cX12_end 17 = .ok (.aload_n 0, 1) := by decide +kernel
theorem dX12_end_18 : decode cX12_end 18 = .ok (.getfield 16, 3) := by decide +kernel
theorem dX12_end_21 : decode cX12_end 21 = .ok (.iload_n 1, 1) := by decide +kernel
theorem dX12_end_22 : decode cX12_end 22 = .ok (.putfield 81, 3) := by decide +kernel
theorem dX12_end_25 : decode cX12_end 25 = .ok (.iload_n 1, 1) := by decide +kernel
theorem dX12_end_26 : decode cX12_end 26 = .ok (.ireturn, 1) := by decide +kernel
theorem dX12_town_0 : decode cX12_town 0 = .ok (.aload_n 0, 1) := by decide +kernel
theorem dX12_town_1 : decode cX12_town 1 = .ok (.getfield 27, 3) := by decide +kernel
theorem dX12_town_4 : decode cX12_town 4 = .ok (.invokevirtual 88, 3) := by decide +kernel
theorem dX12_town_7 : decode cX12_town 7 = .ok (.astore_n 1, 1) := by decide +kernel
theorem dX12_town_8 : decode cX12_town 8 = .ok (.aload_n 0, 1) := by decide +kernel
theorem dX12_town_9 : decode cX12_town 9 = .ok (.getfield 16, 3) := by decide +kernel
theorem dX12_town_12 : decode cX12_town 12 = .ok (.iconst 0, 1) := by decide +kernel
theorem dX12_town_13 : decode cX12_town 13 = .ok (.putfield 81, 3) := by decide +kernel
theorem dX12_town_16 : decode cX12_town 16 = .ok (.aload_n 1, 1) := by decide +kernel
theorem dX12_town_17 : decode cX12_town 17 = .ok (.ifnonnull 14, 3) := by decide +kernel
theorem dX12_town_20 : decode cX12_town 20 = .ok (.bipush (-2), 2) := by decide +kernel
theorem dX12_town_22 : decode cX12_town 22 = .ok (.aload_n 0, 1) := by decide +kernel
theorem dX12_town_23 : decode cX12_town 23 = .ok (.getfield 16, 3) := by decide +kernel
theorem dX12_town_26 : decode cX12_town 26 = .ok (.getfield 92, 3) := by decide +kernel
theorem dX12_town_29 : decode cX12_town 29 = .ok (.isub, 1) := by decide +kernel
theorem dX12_town_30 : decode cX12_town 30 = .ok (.ireturn, 1) := by decide +kernel
theorem dX12_town_31 : decode cX12_town 31 = .ok (.aload_n 0, 1) := by decide +kernel
theorem dX12_town_32 : decode cX12_town 32 = .ok (.getfield 53, 3) := by decide +kernel
theorem dX12_town_35 : decode cX12_town 35 = .ok (.aload_n 1, 1) := by decide +kernel
theorem dX12_town_36 : decode cX12_town 36 = .ok (.invokevirtual 95, 3) := by decide +kernel
theorem dX12_town_39 : decode cX12_town 39 = .ok (.aload_n 1, 1) := by decide +kernel
theorem dX12_town_40 : decode cX12_town 40 = .ok (.getfield 99, 3) := by decide +kernel
theorem dX12_town_43 : decode cX12_town 43 = .ok (.ireturn, 1) := by decide +kernel
theorem dX12_rule_0 : decode cX12_rule 0 = .ok (.aload_n 0, 1) := by decide +kernel
theorem dX12_rule_1 : decode cX12_rule 1 = .ok (.getfield 44, 3) := by decide +kernel
theorem dX12_rule_4 : decode cX12_rule 4 = .ok (.bipush 6, 2) := by decide +kernel
theorem dX12_rule_6 : decode cX12_rule 6 = .ok (.if_icmp .lt 5, 3) := by decide +kernel
theorem dX12_rule_9 : decode cX12_rule 9 = .ok (.iconst (-1), 1) := by decide +kernel
theorem dX12_rule_10 : decode cX12_rule 10 = .ok (.ireturn, 1) := by decide +kernel
theorem dX12_rule_11 : decode cX12_rule 11 = .ok (.aload_n 0, 1) := by decide +kernel
theorem dX12_rule_12 : decode cX12_rule 12 = .ok (.getfield 34, 3) := by decide +kernel
theorem dX12_rule_15 : decode cX12_rule 15 = .ok (.aload_n 0, 1) := by decide +kernel
theorem dX12_rule_16 : decode cX12_rule 16 = .ok (.getfield 49, 3) := by decide +kernel
theorem dX12_rule_19 : decode cX12_rule 19 = .ok (.invokevirtual 104, 3) := by decide +kernel
theorem dX12_rule_22 : decode cX12_rule 22 = .ok (.istore_n 1, 1) := by decide +kernel
theorem dX12_rule_23 : decode cX12_rule 23 = .ok (.aload_n 0, 1) := by decide +kernel
theorem dX12_rule_24 : decode cX12_rule 24 = .ok (.getfield 16, 3) := by decide +kernel
theorem dX12_rule_27 : decode cX12_rule 27 = .ok (.iconst 0, 1) := by decide +kernel
theorem dX12_rule_28 : decode cX12_rule 28 = .ok (.putfield 81, 3) := by decide +kernel
theorem dX12_rule_31 : decode cX12_rule 31 = .ok (.iload_n 1, 1) := by decide +kernel
theorem dX12_rule_32 : decode cX12_rule 32 = .ok (.ifCond .ne 14, 3) := by decide +kernel
theorem dX12_rule_35 : decode cX12_rule 35 = .ok (.bipush (-2), 2) := by decide +kernel
theorem dX12_rule_37 : decode cX12_rule 37 = .ok (.aload_n 0, 1) := by decide +kernel
theorem dX12_rule_38 : decode cX12_rule 38 = .ok (.getfield 16, 3) := by decide +kernel
theorem dX12_rule_41 : decode cX12_rule 41 = .ok (.getfield 92, 3) := by decide +kernel
theorem dX12_rule_44 : decode cX12_rule 44 = .ok (.isub, 1) := by decide +kernel
theorem dX12_rule_45 : decode cX12_rule 45 = .ok (.ireturn, 1) := by decide +kernel
theorem dX12_rule_46 : decode cX12_rule 46 = .ok (.aload_n 0, 1) := by decide +kernel
theorem dX12_rule_47 : decode cX12_rule 47 = .ok (.getfield 40, 3) := by decide +kernel
theorem dX12_rule_50 : decode cX12_rule 50 = .ok (.aload_n 0, 1) := by decide +kernel
theorem dX12_rule_51 : decode cX12_rule 51 = .ok (.getfield 44, 3) := by decide +kernel
theorem dX12_rule_54 : decode cX12_rule 54 = .ok (.aload_n 0, 1) := by decide +kernel
theorem dX12_rule_55 : decode cX12_rule 55 = .ok (.getfield 49, 3) := by decide +kernel
theorem dX12_rule_58 : decode cX12_rule 58 = .ok (.aastore, 1) := by decide +kernel
theorem dX12_rule_59 : decode cX12_rule 59 = .ok (.aload_n 0, 1) := by decide +kernel
theorem dX12_rule_60 : decode cX12_rule 60 = .ok (.new 38, 3) := by decide +kernel
theorem dX12_rule_63 : decode cX12_rule 63 = .ok (.dup, 1) := by decide +kernel
theorem dX12_rule_64 : decode cX12_rule 64 = .ok (.invokespecial 48, 3) := by decide +kernel
theorem dX12_rule_67 : decode cX12_rule 67 = .ok (.putfield 49, 3) := by decide +kernel
theorem dX12_rule_70 : decode cX12_rule 70 = .ok (.aload_n 0, 1) := by decide +kernel
theorem dX12_rule_71 : decode cX12_rule 71 = .ok (.dup, 1) := by decide +kernel
theorem dX12_rule_72 : decode cX12_rule 72 = .ok (.getfield 44, 3) := by decide +kernel
theorem dX12_rule_75 : decode cX12_rule 75 = .ok (.iconst 1, 1) := by decide +kernel
theorem dX12_rule_76 : decode cX12_rule 76 = .ok (.iadd, 1) := by decide +kernel
theorem dX12_rule_77 : decode cX12_rule 77 = .ok (.putfield 44, 3) := by decide +kernel
theorem dX12_rule_80 : decode cX12_rule 80 = .ok (.aload_n 0, 1) := by decide +kernel
theorem dX12_rule_81 : decode cX12_rule 81 = .ok (.getfield 44, 3) := by decide +kernel
theorem dX12_rule_84 : decode cX12_rule 84 = .ok (.iconst 1, 1) := by decide +kernel
theorem dX12_rule_85 : decode cX12_rule 85 = .ok (.isub, 1) := by decide +kernel
theorem dX12_rule_86 : decode cX12_rule 86 = .ok (.ireturn, 1) := by decide +kernel
theorem dX12_force_0 : decode cX12_force 0 = .ok (.iload_n 1, 1) := by decide +kernel
theorem dX12_force_1 : decode cX12_force 1 = .ok (.iconst (-1), 1) := by decide +kernel
theorem dX12_force_2 : decode cX12_force 2 = .ok (.if_icmp .lt 11, 3) := by decide +kernel
theorem dX12_force_5 : decode cX12_force 5 = .ok (.iload_n 1, 1) := by decide +kernel
theorem dX12_force_6 : decode cX12_force 6 = .ok (.aload_n 0, 1) := by decide +kernel
theorem dX12_force_7 : decode cX12_force 7 = .ok (.getfield 44, 3) := by decide +kernel
theorem dX12_force_10 : decode cX12_force 10 = .ok (.if_icmp .lt 6, 3) := by decide +kernel
theorem dX12_force_13 : decode cX12_force 13 = .ok (.bipush (-2), 2) := by decide +kernel
theorem dX12_force_15 : decode cX12_force 15 = .ok (.ireturn, 1) := by decide +kernel
theorem dX12_force_16 : decode cX12_force 16 = .ok (.aload_n 0, 1) := by decide +kernel
theorem dX12_force_17 : decode cX12_force 17 = .ok (.getfield 53, 3) := by decide +kernel
theorem dX12_force_20 : decode cX12_force 20 = .ok (.getfield 107, 3) := by decide +kernel
theorem dX12_force_23 : decode cX12_force 23 = .ok (.istore_n 2, 1) := by decide +kernel
theorem dX12_force_24 : decode cX12_force 24 = .ok (.aload_n 0, 1) := by decide +kernel
theorem dX12_force_25 : decode cX12_force 25 = .ok (.getfield 53, 3) := by decide +kernel
theorem dX12_force_28 : decode cX12_force 28 = .ok (.iload_n 1, 1) := by decide +kernel
theorem dX12_force_29 : decode cX12_force 29 = .ok (.putfield 107, 3) := by decide +kernel
theorem dX12_force_32 : decode cX12_force 32 = .ok (.iload_n 2, 1) := by decide +kernel
theorem dX12_force_33 : decode cX12_force 33 = .ok (.ireturn, 1) := by decide +kernel
theorem dX12_person_0 : decode cX12_person 0 = .ok (.aload_n 0, 1) := by decide +kernel
theorem dX12_person_1 : decode cX12_person 1 = .ok (.iload_n 1, 1) := by decide +kernel
theorem dX12_person_2 : decode cX12_person 2 = .ok (.invokevirtual 110, 3) := by decide +kernel
theorem dX12_person_5 : decode cX12_person 5 = .ok (.ifCond .ne 5, 3) := by decide +kernel
theorem dX12_person_8 : decode cX12_person 8 = .ok (.iconst (-1), 1) := by decide +kernel
theorem dX12_person_9 : decode cX12_person 9 = .ok (.ireturn, 1) := by decide +kernel
theorem dX12_person_10 : decode cX12_person 10 = .ok (.iload_n 2, 1) := by decide +kernel
theorem dX12_person_11 : decode cX12_person 11 = .ok (.tableswitch 117 0 5 #[37, 50, 63, 78, 91, 104], 37) := by decide +kernel
theorem dX12_person_48 : decode cX12_person 48 = .ok (.aload_n 0, 1) := by decide +kernel
theorem dX12_person_49 : decode cX12_person 49 = .ok (.getfield 53, 3) := by decide +kernel
theorem dX12_person_52 : decode cX12_person 52 = .ok (.getfield 114, 3) := by decide +kernel
theorem dX12_person_55 : decode cX12_person 55 = .ok (.getfield 118, 3) := by decide +kernel
theorem dX12_person_58 : decode cX12_person 58 = .ok (.iload_n 1, 1) := by decide +kernel
theorem dX12_person_59 : decode cX12_person 59 = .ok (.iaload, 1) := by decide +kernel
theorem dX12_person_60 : decode cX12_person 60 = .ok (.ireturn, 1) := by decide +kernel
theorem dX12_person_61 : decode cX12_person 61 = .ok (.aload_n 0, 1) := by decide +kernel
theorem dX12_person_62 : decode cX12_person 62 = .ok (.getfield 53, 3) := by decide +kernel
theorem dX12_person_65 : decode cX12_person 65 = .ok (.getfield 114, 3) := by decide +kernel
theorem dX12_person_68 : decode cX12_person 68 = .ok (.getfield 124, 3) := by decide +kernel
theorem dX12_person_71 : decode cX12_person 71 = .ok (.iload_n 1, 1) := by decide +kernel
theorem dX12_person_72 : decode cX12_person 72 = .ok (.iaload, 1) := by decide +kernel
theorem dX12_person_73 : decode cX12_person 73 = .ok (.ireturn, 1) := by decide +kernel
theorem dX12_person_74 : decode cX12_person 74 = .ok (.aload_n 0, 1) := by decide +kernel
theorem dX12_person_75 : decode cX12_person 75 = .ok (.getfield 53, 3) := by decide +kernel
theorem dX12_person_78 : decode cX12_person 78 = .ok (.getfield 127, 3) := by decide +kernel
theorem dX12_person_81 : decode cX12_person 81 = .ok (.getfield 131, 3) := by decide +kernel
theorem dX12_person_84 : decode cX12_person 84 = .ok (.iload_n 1, 1) := by decide +kernel
theorem dX12_person_85 : decode cX12_person 85 = .ok (.ishr, 1) := by decide +kernel
theorem dX12_person_86 : decode cX12_person 86 = .ok (.iconst 1, 1) := by decide +kernel
theorem dX12_person_87 : decode cX12_person 87 = .ok (.iand, 1) := by decide +kernel
theorem dX12_person_88 : decode cX12_person 88 = .ok (.ireturn, 1) := by decide +kernel
theorem dX12_person_89 : decode cX12_person 89 = .ok (.aload_n 0, 1) := by decide +kernel
theorem dX12_person_90 : decode cX12_person 90 = .ok (.getfield 53, 3) := by decide +kernel
theorem dX12_person_93 : decode cX12_person 93 = .ok (.getfield 114, 3) := by decide +kernel
theorem dX12_person_96 : decode cX12_person 96 = .ok (.getfield 134, 3) := by decide +kernel
theorem dX12_person_99 : decode cX12_person 99 = .ok (.iload_n 1, 1) := by decide +kernel
theorem dX12_person_100 : decode cX12_person 100 = .ok (.iaload, 1) := by decide +kernel
theorem dX12_person_101 : decode cX12_person 101 = .ok (.ireturn, 1) := by decide +kernel
theorem dX12_person_102 : decode cX12_person 102 = .ok (.aload_n 0, 1) := by decide +kernel
theorem dX12_person_103 : decode cX12_person 103 = .ok (.getfield 53, 3) := by decide +kernel
theorem dX12_person_106 : decode cX12_person 106 = .ok (.getfield 114, 3) := by decide +kernel
theorem dX12_person_109 : decode cX12_person 109 = .ok (.getfield 137, 3) := by decide +kernel
theorem dX12_person_112 : decode cX12_person 112 = .ok (.iload_n 1, 1) := by decide +kernel
theorem dX12_person_113 : decode cX12_person 113 = .ok (.iaload, 1) := by decide +kernel
theorem dX12_person_114 : decode cX12_person 114 = .ok (.ireturn, 1) := by decide +kernel
theorem dX12_person_115 : decode cX12_person 115 = .ok (.aload_n 0, 1) := by decide +kernel
theorem dX12_person_116 : decode cX12_person 116 = .ok (.getfield 53, 3) := by decide +kernel
theorem dX12_person_119 : decode cX12_person 119 = .ok (.getfield 114, 3) := by decide +kernel
theorem dX12_person_122 : decode cX12_person 122 = .ok (.getfield 140, 3) := by decide +kernel
theorem dX12_person_125 : decode cX12_person 125 = .ok (.iload_n 1, 1) := by decide +kernel
theorem dX12_person_126 : decode cX12_person 126 = .ok (.iaload, 1) := by decide +kernel
theorem dX12_person_127 : decode cX12_person 127 = .ok (.ireturn, 1) := by decide +kernel
theorem dX12_person_128 : decode cX12_person 128 = .ok (.iconst (-1), 1) := by decide +kernel
theorem dX12_person_129 : decode cX12_person 129 = .ok (.ireturn, 1) := by decide +kernel
theorem dX12_stranger_0 : decode cX12_stranger 0 = .ok (.aload_n 0, 1) := by decide +kernel
theorem dX12_stranger_1 : decode cX12_stranger 1 = .ok (.iload_n 1, 1) := by decide +kernel
theorem dX12_stranger_2 : decode cX12_stranger 2 = .ok (.invokevirtual 143, 3) := by decide +kernel
theorem dX12_stranger_5 : decode cX12_stranger 5 = .ok (.ifCond .ne 6, 3) := by decide +kernel
theorem dX12_stranger_8 : decode cX12_stranger 8 = .ok (.bipush (-2), 2) := by decide +kernel
theorem dX12_stranger_10 : decode cX12_stranger 10 = .ok (.ireturn, 1) := by decide +kernel
theorem dX12_stranger_11 : decode cX12_stranger 11 = .ok (.iload_n 2, 1) := by decide +kernel
theorem dX12_stranger_12 : decode cX12_stranger 12 = .ok (.tableswitch 84 0 3 #[32, 45, 58, 71], 32) := by decide +kernel
theorem dX12_stranger_44 : decode cX12_stranger 44 = .ok (.aload_n 0, 1) := by decide +kernel
theorem dX12_stranger_45 : decode cX12_stranger 45 = .ok (.getfield 53, 3) := by decide +kernel
theorem dX12_stranger_48 : decode cX12_stranger 48 = .ok (.getfield 127, 3) := by decide +kernel
theorem dX12_stranger_51 : decode cX12_stranger 51 = .ok (.getfield 146, 3) := by decide +kernel
theorem dX12_stranger_54 : decode cX12_stranger 54 = .ok (.iload_n 1, 1) := by decide +kernel
theorem dX12_stranger_55 : decode cX12_stranger 55 = .ok (.iaload, 1) := by decide +kernel
theorem dX12_stranger_56 : decode cX12_stranger 56 = .ok (.ireturn, 1) := by decide +kernel
theorem dX12_stranger_57 : decode cX12_stranger 57 = .ok (.aload_n 0, 1) := by decide +kernel
theorem dX12_stranger_58 : decode cX12_stranger 58 = .ok (.getfield 53, 3) := by decide +kernel
theorem dX12_stranger_61 : decode cX12_stranger 61 = .ok (.getfield 127, 3) := by decide +kernel
theorem dX12_stranger_64 : decode cX12_stranger 64 = .ok (.getfield 149, 3) := by decide +kernel
theorem dX12_stranger_67 : decode cX12_stranger 67 = .ok (.iload_n 1, 1) := by decide +kernel
theorem dX12_stranger_68 : decode cX12_stranger 68 = .ok (.iaload, 1) := by decide +kernel
theorem dX12_stranger_69 : decode cX12_stranger 69 = .ok (.ireturn, 1) := by decide +kernel
theorem dX12_stranger_70 : decode cX12_stranger 70 = .ok (.aload_n 0, 1) := by decide +kernel
theorem dX12_stranger_71 : decode cX12_stranger 71 = .ok (.getfield 53, 3) := by decide +kernel
theorem dX12_stranger_74 : decode cX12_stranger 74 = .ok (.getfield 127, 3) := by decide +kernel
theorem dX12_stranger_77 : decode cX12_stranger 77 = .ok (.getfield 152, 3) := by decide +kernel
theorem dX12_stranger_80 : decode cX12_stranger 80 = .ok (.iload_n 1, 1) := by decide +kernel
theorem dX12_stranger_81 : decode cX12_stranger 81 = .ok (.iaload, 1) := by decide +kernel
theorem dX12_stranger_82 : decode cX12_stranger 82 = .ok (.ireturn, 1) := by decide +kernel
theorem dX12_stranger_83 : decode cX12_stranger 83 = .ok (.aload_n 0, 1) := by decide +kernel
theorem dX12_stranger_84 : decode cX12_stranger 84 = .ok (.getfield 53, 3) := by decide +kernel
theorem dX12_stranger_87 : decode cX12_stranger 87 = .ok (.getfield 114, 3) := by decide +kernel
theorem dX12_stranger_90 : decode cX12_stranger 90 = .ok (.getfield 155, 3) := by decide +kernel
theorem dX12_stranger_93 : decode cX12_stranger 93 = .ok (.iload_n 1, 1) := by decide +kernel
theorem dX12_stranger_94 : decode cX12_stranger 94 = .ok (.iaload, 1) := by decide +kernel
theorem dX12_stranger_95 : decode cX12_stranger 95 = .ok (.ireturn, 1) := by decide +kernel
theorem dX12_stranger_96 : decode cX12_stranger 96 = .ok (.bipush (-2), 2) := by decide +kernel
theorem dX12_stranger_98 : decode cX12_stranger 98 = .ok (.ireturn, 1) := by decide +kernel
theorem dX12_streets_0 : decode cX12_streets 0 = .ok (.aload_n 0, 1) := by decide +kernel
theorem dX12_streets_1 : decode cX12_streets 1 = .ok (.iload_n 1, 1) := by decide +kernel
theorem dX12_streets_2 : decode cX12_streets 2 = .ok (.invokevirtual 158, 3) := by decide +kernel
theorem dX12_streets_5 : decode cX12_streets 5 = .ok (.ifCond .eq 20, 3) := by decide +kernel
theorem dX12_streets_8 : decode cX12_streets 8 = .ok (.aload_n 0, 1) := by decide +kernel
theorem dX12_streets_9 : decode cX12_streets 9 = .ok (.getfield 53, 3) := by decide +kernel
theorem dX12_streets_12 : decode cX12_streets 12 = .ok (.getfield 114, 3) := by decide +kernel
theorem dX12_streets_15 : decode cX12_streets 15 = .ok (.getfield 161, 3) := by decide +kernel
theorem dX12_streets_18 : decode cX12_streets 18 = .ok (.iload_n 1, 1) := by decide +kernel
theorem dX12_streets_19 : decode cX12_streets 19 = .ok (.invokestatic 165, 3) := by decide +kernel
theorem dX12_streets_22 : decode cX12_streets 22 = .ok (.goto 4, 3) := by decide +kernel
theorem dX12_streets_25 : decode cX12_streets 25 = .ok (.iconst (-1), 1) := by decide +kernel
theorem dX12_streets_26 : decode cX12_streets 26 = .ok (.ireturn, 1) := by decide +kernel
theorem dX12_before_0 : decode cX12_before 0 = .ok (.aload_n 0, 1) := by decide +kernel
theorem dX12_before_1 : decode cX12_before 1 = .ok (.iload_n 1, 1) := by decide +kernel
theorem dX12_before_2 : decode cX12_before 2 = .ok (.invokevirtual 143, 3) := by decide +kernel
theorem dX12_before_5 : decode cX12_before 5 = .ok (.ifCond .eq 11, 3) := by decide +kernel
theorem dX12_before_8 : decode cX12_before 8 = .ok (.aload_n 0, 1) := by decide +kernel
theorem dX12_before_9 : decode cX12_before 9 = .ok (.iload_n 2, 1) := by decide +kernel
theorem dX12_before_10 : decode cX12_before 10 = .ok (.invokevirtual 110, 3) := by decide +kernel
theorem dX12_before_13 : decode cX12_before 13 = .ok (.ifCond .ne 5, 3) := by decide +kernel
theorem dX12_before_16 : decode cX12_before 16 = .ok (.iconst (-1), 1) := by decide +kernel
theorem dX12_before_17 : decode cX12_before 17 = .ok (.ireturn, 1) := by decide +kernel
theorem dX12_before_18 : decode cX12_before 18 = .ok (.aload_n 0, 1) := by decide +kernel
theorem dX12_before_19 : decode cX12_before 19 = .ok (.getfield 53, 3) := by decide +kernel
theorem dX12_before_22 : decode cX12_before 22 = .ok (.getfield 114, 3) := by decide +kernel
theorem dX12_before_25 : decode cX12_before 25 = .ok (.getfield 171, 3) := by decide +kernel
theorem dX12_before_28 : decode cX12_before 28 = .ok (.iload_n 1, 1) := by decide +kernel
theorem dX12_before_29 : decode cX12_before 29 = .ok (.bipush 6, 2) := by decide +kernel
theorem dX12_before_31 : decode cX12_before 31 = .ok (.imul, 1) := by decide +kernel
theorem dX12_before_32 : decode cX12_before 32 = .ok (.iload_n 2, 1) := by decide +kernel
theorem dX12_before_33 : decode cX12_before 33 = .ok (.iadd, 1) := by decide +kernel
theorem dX12_before_34 : decode cX12_before 34 = .ok (.iaload, 1) := by decide +kernel
theorem dX12_before_35 : decode cX12_before 35 = .ok (.ireturn, 1) := by decide +kernel
theorem dX12_hour_0 : decode cX12_hour 0 = .ok (.aload_n 0, 1) := by decide +kernel
theorem dX12_hour_1 : decode cX12_hour 1 = .ok (.invokevirtual 174, 3) := by decide +kernel
theorem dX12_hour_4 : decode cX12_hour 4 = .ok (.ifCond .eq 19, 3) := by decide +kernel
theorem dX12_hour_7 : decode cX12_hour 7 = .ok (.aload_n 0, 1) := by decide +kernel
theorem dX12_hour_8 : decode cX12_hour 8 = .ok (.getfield 53, 3) := by decide +kernel
theorem dX12_hour_11 : decode cX12_hour 11 = .ok (.getfield 114, 3) := by decide +kernel
theorem dX12_hour_14 : decode cX12_hour 14 = .ok (.getfield 178, 3) := by decide +kernel
theorem dX12_hour_17 : decode cX12_hour 17 = .ok (.sipush 999, 3) := by decide +kernel
theorem dX12_hour_20 : decode cX12_hour 20 = .ok (.if_icmp .lt 5, 3) := by decide +kernel
theorem dX12_hour_23 : decode cX12_hour 23 = .ok (.iconst (-1), 1) := by decide +kernel
theorem dX12_hour_24 : decode cX12_hour 24 = .ok (.ireturn, 1) := by decide +kernel
theorem dX12_hour_25 : decode cX12_hour 25 = .ok (.aload_n 0, 1) := by decide +kernel
theorem dX12_hour_26 : decode cX12_hour 26 = .ok (.getfield 53, 3) := by decide +kernel
theorem dX12_hour_29 : decode cX12_hour 29 = .ok (.getfield 181, 3) := by decide +kernel
theorem dX12_hour_32 : decode cX12_hour 32 = .ok (.aload_n 0, 1) := by decide +kernel
theorem dX12_hour_33 : decode cX12_hour 33 = .ok (.getfield 53, 3) := by decide +kernel
theorem dX12_hour_36 : decode cX12_hour 36 = .ok (.getfield 114, 3) := by decide +kernel
theorem dX12_hour_39 : decode cX12_hour 39 = .ok (.invokevirtual 185, 3) := by decide +kernel
theorem dX12_hour_42 : decode cX12_hour 42 = .ok (.aload_n 0, 1) := by decide +kernel
theorem dX12_hour_43 : decode cX12_hour 43 = .ok (.invokevirtual 191, 3) := by decide +kernel
theorem dX12_hour_46 : decode cX12_hour 46 = .ok (.aload_n 0, 1) := by decide +kernel
theorem dX12_hour_47 : decode cX12_hour 47 = .ok (.getfield 61, 3) := by decide +kernel
theorem dX12_hour_50 : decode cX12_hour 50 = .ok (.aload_n 0, 1) := by decide +kernel
theorem dX12_hour_51 : decode cX12_hour 51 = .ok (.getfield 53, 3) := by decide +kernel
theorem dX12_hour_54 : decode cX12_hour 54 = .ok (.getfield 114, 3) := by decide +kernel
theorem dX12_hour_57 : decode cX12_hour 57 = .ok (.invokevirtual 194, 3) := by decide +kernel
theorem dX12_hour_60 : decode cX12_hour 60 = .ok (.ireturn, 1) := by decide +kernel
theorem dX12_stand_0 : decode cX12_stand 0 = .ok (.aload_n 0, 1) := by decide +kernel
theorem dX12_stand_1 : decode cX12_stand 1 = .ok (.iload_n 1, 1) := by decide +kernel
theorem dX12_stand_2 : decode cX12_stand 2 = .ok (.invokevirtual 110, 3) := by decide +kernel
theorem dX12_stand_5 : decode cX12_stand 5 = .ok (.ifCond .eq 27, 3) := by decide +kernel
theorem dX12_stand_8 : decode cX12_stand 8 = .ok (.aload_n 0, 1) := by decide +kernel
theorem dX12_stand_9 : decode cX12_stand 9 = .ok (.iload_n 2, 1) := by decide +kernel
theorem dX12_stand_10 : decode cX12_stand 10 = .ok (.invokevirtual 158, 3) := by decide +kernel
theorem dX12_stand_13 : decode cX12_stand 13 = .ok (.ifCond .eq 19, 3) := by decide +kernel
theorem dX12_stand_16 : decode cX12_stand 16 = .ok (.aload_n 0, 1) := by decide +kernel
theorem dX12_stand_17 : decode cX12_stand 17 = .ok (.getfield 53, 3) := by decide +kernel
theorem dX12_stand_20 : decode cX12_stand 20 = .ok (.getfield 114, 3) := by decide +kernel
theorem dX12_stand_23 : decode cX12_stand 23 = .ok (.getfield 118, 3) := by decide +kernel
theorem dX12_stand_26 : decode cX12_stand 26 = .ok (.iload_n 1, 1) := by decide +kernel
theorem dX12_stand_27 : decode cX12_stand 27 = .ok (.iaload, 1) := by decide +kernel
theorem dX12_stand_28 : decode cX12_stand 28 = .ok (.iload_n 2, 1) := by decide +kernel
theorem dX12_stand_29 : decode cX12_stand 29 = .ok (.if_icmp .ne 5, 3) := by decide +kernel
theorem dX12_stand_32 : decode cX12_stand 32 = .ok (.iconst (-1), 1) := by decide +kernel
theorem dX12_stand_33 : decode cX12_stand 33 = .ok (.ireturn, 1) := by decide +kernel
theorem dX12_stand_34 : decode cX12_stand 34 = .ok (.aload_n 0, 1) := by decide +kernel
theorem dX12_stand_35 : decode cX12_stand 35 = .ok (.getfield 53, 3) := by decide +kernel
theorem dX12_stand_38 : decode cX12_stand 38 = .ok (.getfield 181, 3) := by decide +kernel
theorem dX12_stand_41 : decode cX12_stand 41 = .ok (.aload_n 0, 1) := by decide +kernel
theorem dX12_stand_42 : decode cX12_stand 42 = .ok (.getfield 53, 3) := by decide +kernel
theorem dX12_stand_45 : decode cX12_stand 45 = .ok (.getfield 114, 3) := by decide +kernel
theorem dX12_stand_48 : decode cX12_stand 48 = .ok (.invokevirtual 185, 3) := by decide +kernel
theorem dX12_stand_51 : decode cX12_stand 51 = .ok (.aload_n 0, 1) := by decide +kernel
theorem dX12_stand_52 : decode cX12_stand 52 = .ok (.getfield 53, 3) := by decide +kernel
theorem dX12_stand_55 : decode cX12_stand 55 = .ok (.getfield 114, 3) := by decide +kernel
theorem dX12_stand_58 : decode cX12_stand 58 = .ok (.getfield 118, 3) := by decide +kernel
theorem dX12_stand_61 : decode cX12_stand 61 = .ok (.iload_n 1, 1) := by decide +kernel
theorem dX12_stand_62 : decode cX12_stand 62 = .ok (.iaload, 1) := by decide +kernel
theorem dX12_stand_63 : decode cX12_stand 63 = .ok (.istore_n 3, 1) := by decide +kernel
theorem dX12_stand_64 : decode cX12_stand 64 = .ok (.aload_n 0, 1) := by decide +kernel
theorem dX12_stand_65 : decode cX12_stand 65 = .ok (.getfield 53, 3) := by decide +kernel
theorem dX12_stand_68 : decode cX12_stand 68 = .ok (.getfield 114, 3) := by decide +kernel
theorem dX12_stand_71 : decode cX12_stand 71 = .ok (.getfield 118, 3) := by decide +kernel
theorem dX12_stand_74 : decode cX12_stand 74 = .ok (.iload_n 1, 1) := by decide +kernel
theorem dX12_stand_75 : decode cX12_stand 75 = .ok (.iload_n 2, 1) := by decide +kernel
theorem dX12_stand_76 : decode cX12_stand 76 = .ok (.iastore, 1) := by decide +kernel
theorem dX12_stand_77 : decode cX12_stand 77 = .ok (.iload_n 3, 1) := by decide +kernel
theorem dX12_stand_78 : decode cX12_stand 78 = .ok (.ireturn, 1) := by decide +kernel
theorem dX12_collar_0 : decode cX12_collar 0 = .ok (.aload_n 0, 1) := by decide +kernel
theorem dX12_collar_1 : decode cX12_collar 1 = .ok (.iload_n 1, 1) := by decide +kernel
theorem dX12_collar_2 : decode cX12_collar 2 = .ok (.invokevirtual 110, 3) := by decide +kernel
theorem dX12_collar_5 : decode cX12_collar 5 = .ok (.ifCond .eq 29, 3) := by decide +kernel
theorem dX12_collar_8 : decode cX12_collar 8 = .ok (.iload_n 2, 1) := by decide +kernel
theorem dX12_collar_9 : decode cX12_collar 9 = .ok (.iconst 0, 1) := by decide +kernel
theorem dX12_collar_10 : decode cX12_collar 10 = .ok (.bipush 9, 2) := by decide +kernel
theorem dX12_collar_12 : decode cX12_collar 12 = .ok (.invokestatic 198, 3) := by decide +kernel
theorem dX12_collar_15 : decode cX12_collar 15 = .ok (.ifCond .eq 19, 3) := by decide +kernel
theorem dX12_collar_18 : decode cX12_collar 18 = .ok (.aload_n 0, 1) := by decide +kernel
theorem dX12_collar_19 : decode cX12_collar 19 = .ok (.getfield 53, 3) := by decide +kernel
theorem dX12_collar_22 : decode cX12_collar 22 = .ok (.getfield 114, 3) := by decide +kernel
theorem dX12_collar_25 : decode cX12_collar 25 = .ok (.getfield 124, 3) := by decide +kernel
theorem dX12_collar_28 : decode cX12_collar 28 = .ok (.iload_n 1, 1) := by decide +kernel
theorem dX12_collar_29 : decode cX12_collar 29 = .ok (.iaload, 1) := by decide +kernel
theorem dX12_collar_30 : decode cX12_collar 30 = .ok (.iload_n 2, 1) := by decide +kernel
theorem dX12_collar_31 : decode cX12_collar 31 = .ok (.if_icmp .ne 5, 3) := by decide +kernel
theorem dX12_collar_34 : decode cX12_collar 34 = .ok (.iconst (-1), 1) := by decide +kernel
theorem dX12_collar_35 : decode cX12_collar 35 = .ok (.ireturn, 1) := by decide +kernel
theorem dX12_collar_36 : decode cX12_collar 36 = .ok (.aload_n 0, 1) := by decide +kernel
theorem dX12_collar_37 : decode cX12_collar 37 = .ok (.getfield 53, 3) := by decide +kernel
theorem dX12_collar_40 : decode cX12_collar 40 = .ok (.getfield 181, 3) := by decide +kernel
theorem dX12_collar_43 : decode cX12_collar 43 = .ok (.aload_n 0, 1) := by decide +kernel
theorem dX12_collar_44 : decode cX12_collar 44 = .ok (.getfield 53, 3) := by decide +kernel
theorem dX12_collar_47 : decode cX12_collar 47 = .ok (.getfield 114, 3) := by decide +kernel
theorem dX12_collar_50 : decode cX12_collar 50 = .ok (.invokevirtual 185, 3) := by decide +kernel
theorem dX12_collar_53 : decode cX12_collar 53 = .ok (.aload_n 0, 1) := by decide +kernel
theorem dX12_collar_54 : decode cX12_collar 54 = .ok (.getfield 53, 3) := by decide +kernel
theorem dX12_collar_57 : decode cX12_collar 57 = .ok (.getfield 114, 3) := by decide +kernel
theorem dX12_collar_60 : decode cX12_collar 60 = .ok (.getfield 124, 3) := by decide +kernel
theorem dX12_collar_63 : decode cX12_collar 63 = .ok (.iload_n 1, 1) := by decide +kernel
theorem dX12_collar_64 : decode cX12_collar 64 = .ok (.iaload, 1) := by decide +kernel
theorem dX12_collar_65 : decode cX12_collar 65 = .ok (.istore_n 3, 1) := by decide +kernel
theorem dX12_collar_66 : decode cX12_collar 66 = .ok (.aload_n 0, 1) := by decide +kernel
theorem dX12_collar_67 : decode cX12_collar 67 = .ok (.getfield 53, 3) := by decide +kernel
theorem dX12_collar_70 : decode cX12_collar 70 = .ok (.getfield 114, 3) := by decide +kernel
theorem dX12_collar_73 : decode cX12_collar 73 = .ok (.getfield 124, 3) := by decide +kernel
theorem dX12_collar_76 : decode cX12_collar 76 = .ok (.iload_n 1, 1) := by decide +kernel
theorem dX12_collar_77 : decode cX12_collar 77 = .ok (.iload_n 2, 1) := by decide +kernel
theorem dX12_collar_78 : decode cX12_collar 78 = .ok (.iastore, 1) := by decide +kernel
theorem dX12_collar_79 : decode cX12_collar 79 = .ok (.iload_n 3, 1) := by decide +kernel
theorem dX12_collar_80 : decode cX12_collar 80 = .ok (.ireturn, 1) := by decide +kernel
theorem dX12_shut_0 : decode cX12_shut 0 = .ok (.aload_n 0, 1) := by decide +kernel
theorem dX12_shut_1 : decode cX12_shut 1 = .ok (.iload_n 1, 1) := by decide +kernel
theorem dX12_shut_2 : decode cX12_shut 2 = .ok (.invokevirtual 158, 3) := by decide +kernel
theorem dX12_shut_5 : decode cX12_shut 5 = .ok (.ifCond .eq 11, 3) := by decide +kernel
theorem dX12_shut_8 : decode cX12_shut 8 = .ok (.aload_n 0, 1) := by decide +kernel
theorem dX12_shut_9 : decode cX12_shut 9 = .ok (.iload_n 2, 1) := by decide +kernel
theorem dX12_shut_10 : decode cX12_shut 10 = .ok (.invokevirtual 158, 3) := by decide +kernel
theorem dX12_shut_13 : decode cX12_shut 13 = .ok (.ifCond .ne 5, 3) := by decide +kernel
theorem dX12_shut_16 : decode cX12_shut 16 = .ok (.iconst (-1), 1) := by decide +kernel
theorem dX12_shut_17 : decode cX12_shut 17 = .ok (.ireturn, 1) := by decide +kernel
theorem dX12_shut_18 : decode cX12_shut 18 = .ok (.iload_n 1, 1) := by decide +kernel
theorem dX12_shut_19 : decode cX12_shut 19 = .ok (.iload_n 2, 1) := by decide +kernel
theorem dX12_shut_20 : decode cX12_shut 20 = .ok (.invokestatic 202, 3) := by decide +kernel
theorem dX12_shut_23 : decode cX12_shut 23 = .ok (.lstore_n 3, 1) := by decide +kernel
theorem dX12_shut_24 : decode cX12_shut 24 = .ok (.aload_n 0, 1) := by decide +kernel
theorem dX12_shut_25 : decode cX12_shut 25 = .ok (.getfield 53, 3) := by decide +kernel
theorem dX12_shut_28 : decode cX12_shut 28 = .ok (.getfield 127, 3) := by decide +kernel
theorem dX12_shut_31 : decode cX12_shut 31 = .ok (.getfield 206, 3) := by decide +kernel
theorem dX12_shut_34 : decode cX12_shut 34 = .ok (.lload_n 3, 1) := by decide +kernel
theorem dX12_shut_35 : decode cX12_shut 35 = .ok (.land, 1) := by decide +kernel
theorem dX12_shut_36 : decode cX12_shut 36 = .ok (.lconst 0, 1) := by decide +kernel
theorem dX12_shut_37 : decode cX12_shut 37 = .ok (.lcmp, 1) := by decide +kernel
theorem dX12_shut_38 : decode cX12_shut 38 = .ok (.ifCond .ne 5, 3) := by decide +kernel
theorem dX12_shut_41 : decode cX12_shut 41 = .ok (.iconst (-1), 1) := by decide +kernel
theorem dX12_shut_42 : decode cX12_shut 42 = .ok (.ireturn, 1) := by decide +kernel
theorem dX12_shut_43 : decode cX12_shut 43 = .ok (.aload_n 0, 1) := by decide +kernel
theorem dX12_shut_44 : decode cX12_shut 44 = .ok (.getfield 53, 3) := by decide +kernel
theorem dX12_shut_47 : decode cX12_shut 47 = .ok (.getfield 181, 3) := by decide +kernel
theorem dX12_shut_50 : decode cX12_shut 50 = .ok (.aload_n 0, 1) := by decide +kernel
theorem dX12_shut_51 : decode cX12_shut 51 = .ok (.getfield 53, 3) := by decide +kernel
theorem dX12_shut_54 : decode cX12_shut 54 = .ok (.getfield 114, 3) := by decide +kernel
theorem dX12_shut_57 : decode cX12_shut 57 = .ok (.invokevirtual 185, 3) := by decide +kernel
theorem dX12_shut_60 : decode cX12_shut 60 = .ok (.aload_n 0, 1) := by decide +kernel
theorem dX12_shut_61 : decode cX12_shut 61 = .ok (.getfield 53, 3) := by decide +kernel
theorem dX12_shut_64 : decode cX12_shut 64 = .ok (.getfield 114, 3) := by decide +kernel
theorem dX12_shut_67 : decode cX12_shut 67 = .ok (.dup, 1) := by decide +kernel
theorem dX12_shut_68 : decode cX12_shut 68 = .ok (.getfield 161, 3) := by decide +kernel
theorem dX12_shut_71 : decode cX12_shut 71 = .ok (.lload_n 3, 1) := by decide +kernel
theorem dX12_shut_72 : decode cX12_shut 72 = .ok (.lxor, 1) := by decide +kernel
theorem dX12_shut_73 : decode cX12_shut 73 = .ok (.putfield 161, 3) := by decide +kernel
theorem dX12_shut_76 : decode cX12_shut 76 = .ok (.aload_n 0, 1) := by decide +kernel
theorem dX12_shut_77 : decode cX12_shut 77 = .ok (.getfield 53, 3) := by decide +kernel
theorem dX12_shut_80 : decode cX12_shut 80 = .ok (.getfield 114, 3) := by decide +kernel
theorem dX12_shut_83 : decode cX12_shut 83 = .ok (.getfield 161, 3) := by decide +kernel
theorem dX12_shut_86 : decode cX12_shut 86 = .ok (.lload_n 3, 1) := by decide +kernel
theorem dX12_shut_87 : decode cX12_shut 87 = .ok (.land, 1) := by decide +kernel
theorem dX12_shut_88 : decode cX12_shut 88 = .ok (.lconst 0, 1) := by decide +kernel
theorem dX12_shut_89 : decode cX12_shut 89 = .ok (.lcmp, 1) := by decide +kernel
theorem dX12_shut_90 : decode cX12_shut 90 = .ok (.ifCond .ne 7, 3) := by decide +kernel
theorem dX12_shut_93 : decode cX12_shut 93 = .ok (.iconst 1, 1) := by decide +kernel
theorem dX12_shut_94 : decode cX12_shut 94 = .ok (.goto 4, 3) := by decide +kernel
theorem dX12_shut_97 : decode cX12_shut 97 = .ok (.iconst 0, 1) := by decide +kernel
theorem dX12_shut_98 : decode cX12_shut 98 = .ok (.ireturn, 1) := by decide +kernel
theorem dX12_hunt_0 : decode cX12_hunt 0 = .ok (.aload_n 0, 1) := by decide +kernel
theorem dX12_hunt_1 : decode cX12_hunt 1 = .ok (.iload_n 1, 1) := by decide +kernel
theorem dX12_hunt_2 : decode cX12_hunt 2 = .ok (.invokevirtual 143, 3) := by decide +kernel
theorem dX12_hunt_5 : decode cX12_hunt 5 = .ok (.ifCond .eq 19, 3) := by decide +kernel
theorem dX12_hunt_8 : decode cX12_hunt 8 = .ok (.aload_n 0, 1) := by decide +kernel
theorem dX12_hunt_9 : decode cX12_hunt 9 = .ok (.getfield 53, 3) := by decide +kernel
theorem dX12_hunt_12 : decode cX12_hunt 12 = .ok (.getfield 114, 3) := by decide +kernel
theorem dX12_hunt_15 : decode cX12_hunt 15 = .ok (.getfield 155, 3) := by decide +kernel
theorem dX12_hunt_18 : decode cX12_hunt 18 = .ok (.iload_n 1, 1) := by decide +kernel
theorem dX12_hunt_19 : decode cX12_hunt 19 = .ok (.iaload, 1) := by decide +kernel
theorem dX12_hunt_20 : decode cX12_hunt 20 = .ok (.iconst (-1), 1) := by decide +kernel
theorem dX12_hunt_21 : decode cX12_hunt 21 = .ok (.if_icmp .ne 5, 3) := by decide +kernel
theorem dX12_hunt_24 : decode cX12_hunt 24 = .ok (.iconst (-1), 1) := by decide +kernel
theorem dX12_hunt_25 : decode cX12_hunt 25 = .ok (.ireturn, 1) := by decide +kernel
theorem dX12_hunt_26 : decode cX12_hunt 26 = .ok (.aload_n 0, 1) := by decide +kernel
theorem dX12_hunt_27 : decode cX12_hunt 27 = .ok (.getfield 53, 3) := by decide +kernel
theorem dX12_hunt_30 : decode cX12_hunt 30 = .ok (.getfield 181, 3) := by decide +kernel
theorem dX12_hunt_33 : decode cX12_hunt 33 = .ok (.aload_n 0, 1) := by decide +kernel
theorem dX12_hunt_34 : decode cX12_hunt 34 = .ok (.getfield 53, 3) := by decide +kernel
theorem dX12_hunt_37 : decode cX12_hunt 37 = .ok (.getfield 114, 3) := by decide +kernel
theorem dX12_hunt_40 : decode cX12_hunt 40 = .ok (.invokevirtual 185, 3) := by decide +kernel
theorem dX12_hunt_43 : decode cX12_hunt 43 = .ok (.aload_n 0, 1) := by decide +kernel
theorem dX12_hunt_44 : decode cX12_hunt 44 = .ok (.getfield 53, 3) := by decide +kernel
theorem dX12_hunt_47 : decode cX12_hunt 47 = .ok (.getfield 114, 3) := by decide +kernel
theorem dX12_hunt_50 : decode cX12_hunt 50 = .ok (.getfield 155, 3) := by decide +kernel
theorem dX12_hunt_53 : decode cX12_hunt 53 = .ok (.iload_n 1, 1) := by decide +kernel
theorem dX12_hunt_54 : decode cX12_hunt 54 = .ok (.iaload, 1) := by decide +kernel
theorem dX12_hunt_55 : decode cX12_hunt 55 = .ok (.istore_n 2, 1) := by decide +kernel
theorem dX12_hunt_56 : decode cX12_hunt 56 = .ok (.aload_n 0, 1) := by decide +kernel
theorem dX12_hunt_57 : decode cX12_hunt 57 = .ok (.getfield 53, 3) := by decide +kernel
theorem dX12_hunt_60 : decode cX12_hunt 60 = .ok (.getfield 114, 3) := by decide +kernel
theorem dX12_hunt_63 : decode cX12_hunt 63 = .ok (.getfield 155, 3) := by decide +kernel
theorem dX12_hunt_66 : decode cX12_hunt 66 = .ok (.iload_n 1, 1) := by decide +kernel
theorem dX12_hunt_67 : decode cX12_hunt 67 = .ok (.iconst (-1), 1) := by decide +kernel
theorem dX12_hunt_68 : decode cX12_hunt 68 = .ok (.iastore, 1) := by decide +kernel
theorem dX12_hunt_69 : decode cX12_hunt 69 = .ok (.iload_n 2, 1) := by decide +kernel
theorem dX12_hunt_70 : decode cX12_hunt 70 = .ok (.ireturn, 1) := by decide +kernel
theorem dX12_undo_0 : decode cX12_undo 0 = .ok (.aload_n 0, 1) := by decide +kernel
theorem dX12_undo_1 : decode cX12_undo 1 = .ok (.getfield 53, 3) := by decide +kernel
theorem dX12_undo_4 : decode cX12_undo 4 = .ok (.getfield 181, 3) := by decide +kernel
theorem dX12_undo_7 : decode cX12_undo 7 = .ok (.getfield 209, 3) := by decide +kernel
theorem dX12_undo_10 : decode cX12_undo 10 = .ok (.ifCond .ne 6, 3) := by decide +kernel
theorem dX12_undo_13 : decode cX12_undo 13 = .ok (.bipush (-2), 2) := by decide +kernel
theorem dX12_undo_15 : decode cX12_undo 15 = .ok (.ireturn, 1) := by decide +kernel
theorem dX12_undo_16 : decode cX12_undo 16 = .ok (.aload_n 0, 1) := by decide +kernel
theorem dX12_undo_17 : decode cX12_undo 17 = .ok (.getfield 53, 3) := by decide +kernel
theorem dX12_undo_20 : decode cX12_undo 20 = .ok (.getfield 181, 3) := by decide +kernel
theorem dX12_undo_23 : decode cX12_undo 23 = .ok (.aload_n 0, 1) := by decide +kernel
theorem dX12_undo_24 : decode cX12_undo 24 = .ok (.getfield 53, 3) := by decide +kernel
theorem dX12_undo_27 : decode cX12_undo 27 = .ok (.getfield 114, 3) := by decide +kernel
theorem dX12_undo_30 : decode cX12_undo 30 = .ok (.invokevirtual 212, 3) := by decide +kernel
theorem dX12_undo_33 : decode cX12_undo 33 = .ok (.aload_n 0, 1) := by decide +kernel
theorem dX12_undo_34 : decode cX12_undo 34 = .ok (.getfield 53, 3) := by decide +kernel
theorem dX12_undo_37 : decode cX12_undo 37 = .ok (.getfield 181, 3) := by decide +kernel
theorem dX12_undo_40 : decode cX12_undo 40 = .ok (.getfield 209, 3) := by decide +kernel
theorem dX12_undo_43 : decode cX12_undo 43 = .ok (.ireturn, 1) := by decide +kernel
theorem dX12_ahead_0 : decode cX12_ahead 0 = .ok (.iload_n 3, 1) := by decide +kernel
theorem dX12_ahead_1 : decode cX12_ahead 1 = .ok (.ifCond .ne 11, 3) := by decide +kernel
theorem dX12_ahead_4 : decode cX12_ahead 4 = .ok (.aload_n 0, 1) := by decide +kernel
theorem dX12_ahead_5 : decode cX12_ahead 5 = .ok (.iload_n 1, 1) := by decide +kernel
theorem dX12_ahead_6 : decode cX12_ahead 6 = .ok (.invokevirtual 110, 3) := by decide +kernel
theorem dX12_ahead_9 : decode cX12_ahead 9 = .ok (.goto 21, 3) := by decide +kernel
theorem dX12_ahead_12 : decode cX12_ahead 12 = .ok (.iload_n 3, 1) := by decide +kernel
theorem dX12_ahead_13 : decode cX12_ahead 13 = .ok (.iconst 1, 1) := by decide +kernel
theorem dX12_ahead_14 : decode cX12_ahead 14 = .ok (.if_icmp .ne 11, 3) := by decide +kernel
theorem dX12_ahead_17 : decode cX12_ahead 17 = .ok (.aload_n 0, 1) := by decide +kernel
theorem dX12_ahead_18 : decode cX12_ahead 18 = .ok (.iload_n 1, 1) := by decide +kernel
theorem dX12_ahead_19 : decode cX12_ahead 19 = .ok (.invokevirtual 143, 3) := by decide +kernel
theorem dX12_ahead_22 : decode cX12_ahead 22 = .ok (.ifCond .eq 7, 3) := by decide +kernel
theorem dX12_ahead_25 : decode cX12_ahead 25 = .ok (.iconst 1, 1) := by decide +kernel
theorem dX12_ahead_26 : decode cX12_ahead 26 = .ok (.goto 4, 3) := by decide +kernel
theorem dX12_ahead_29 : decode cX12_ahead 29 = .ok (.iconst 0, 1) := by decide +kernel
theorem dX12_ahead_30 : decode cX12_ahead 30 = .ok (.istore 4, 2) := by decide +kernel
theorem dX12_ahead_32 : decode cX12_ahead 32 = .ok (.aload_n 0, 1) := by decide +kernel
theorem dX12_ahead_33 : decode cX12_ahead 33 = .ok (.invokevirtual 174, 3) := by decide +kernel
theorem dX12_ahead_36 : decode cX12_ahead 36 = .ok (.ifCond .eq 27, 3) := by decide +kernel
theorem dX12_ahead_39 : decode cX12_ahead 39 = .ok (.iload_n 2, 1) := by decide +kernel
theorem dX12_ahead_40 : decode cX12_ahead 40 = .ok (.iconst 0, 1) := by decide +kernel
theorem dX12_ahead_41 : decode cX12_ahead 41 = .ok (.bipush 100, 2) := by decide +kernel
theorem dX12_ahead_43 : decode cX12_ahead 43 = .ok (.invokestatic 198, 3) := by decide +kernel
theorem dX12_ahead_46 : decode cX12_ahead 46 = .ok (.ifCond .eq 17, 3) := by decide +kernel
theorem dX12_ahead_49 : decode cX12_ahead 49 = .ok (.iload_n 3, 1) := by decide +kernel
theorem dX12_ahead_50 : decode cX12_ahead 50 = .ok (.iconst 0, 1) := by decide +kernel
theorem dX12_ahead_51 : decode cX12_ahead 51 = .ok (.iconst 3, 1) := by decide +kernel
theorem dX12_ahead_52 : decode cX12_ahead 52 = .ok (.invokestatic 198, 3) := by decide +kernel
theorem dX12_ahead_55 : decode cX12_ahead 55 = .ok (.ifCond .eq 8, 3) := by decide +kernel
theorem dX12_ahead_58 : decode cX12_ahead 58 = .ok (.iload 4, 2) := by decide +kernel
theorem dX12_ahead_60 : decode cX12_ahead 60 = .ok (.ifCond .ne 6, 3) := by decide +kernel
theorem dX12_ahead_63 : decode cX12_ahead 63 = .ok (.bipush (-2), 2) := by decide +kernel
theorem dX12_ahead_65 : decode cX12_ahead 65 = .ok (.ireturn, 1) := by decide +kernel
theorem dX12_ahead_66 : decode cX12_ahead 66 = .ok (.aload_n 0, 1) := by decide +kernel
theorem dX12_ahead_67 : decode cX12_ahead 67 = .ok (.invokevirtual 191, 3) := by decide +kernel
theorem dX12_ahead_70 : decode cX12_ahead 70 = .ok (.aload_n 0, 1) := by decide +kernel
theorem dX12_ahead_71 : decode cX12_ahead 71 = .ok (.getfield 70, 3) := by decide +kernel
theorem dX12_ahead_74 : decode cX12_ahead 74 = .ok (.iload_n 2, 1) := by decide +kernel
theorem dX12_ahead_75 : decode cX12_ahead 75 = .ok (.invokevirtual 215, 3) := by decide +kernel
theorem dX12_ahead_78 : decode cX12_ahead 78 = .ok (.astore 5, 2) := by decide +kernel
theorem dX12_ahead_80 : decode cX12_ahead 80 = .ok (.iload_n 3, 1) := by decide +kernel
theorem dX12_ahead_81 : decode cX12_ahead 81 = .ok (.tableswitch 49 0 2 #[27, 35, 43], 27) := by decide +kernel
