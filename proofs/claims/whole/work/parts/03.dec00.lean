theorem dX0_init_0 : decode cX0_init 0 = .ok (.aload_n 0, 1) := by decide +kernel
theorem dX0_init_1 : decode cX0_init 1 = .ok (.invokespecial 3, 3) := by decide +kernel
theorem dX0_init_4 : decode cX0_init 4 = .ok (.aload_n 0, 1) := by decide +kernel
theorem dX0_init_5 : decode cX0_init 5 = .ok (.new 9, 3) := by decide +kernel
theorem dX0_init_8 : decode cX0_init 8 = .ok (.dup, 1) := by decide +kernel
theorem dX0_init_9 : decode cX0_init 9 = .ok (.invokespecial 11, 3) := by decide +kernel
theorem dX0_init_12 : decode cX0_init 12 = .ok (.putfield 12, 3) := by decide +kernel
theorem dX0_init_15 : decode cX0_init 15 = .ok (.aload_n 0, 1) := by decide +kernel
theorem dX0_init_16 : decode cX0_init 16 = .ok (.iconst 5, 1) := by decide +kernel
theorem dX0_init_17 : decode cX0_init 17 = .ok (.newarray .int, 2) := by decide +kernel
theorem dX0_init_19 : decode cX0_init 19 = .ok (.putfield 18, 3) := by decide +kernel
theorem dX0_init_22 : decode cX0_init 22 = .ok (.aload_n 0, 1) := by decide +kernel
theorem dX0_init_23 : decode cX0_init 23 = .ok (.bipush 12, 2) := by decide +kernel
theorem dX0_init_25 : decode cX0_init 25 = .ok (.newarray .int, 2) := by decide +kernel
theorem dX0_init_27 : decode cX0_init 27 = .ok (.putfield 22, 3) := by decide +kernel
theorem dX0_init_30 : decode cX0_init 30 = .ok (.aload_n 0, 1) := by decide +kernel
theorem dX0_init_31 : decode cX0_init 31 = .ok (.new 25, 3) := by decide +kernel
theorem dX0_init_34 : decode cX0_init 34 = .ok (.dup, 1) := by decide +kernel
theorem dX0_init_35 : decode cX0_init 35 = .ok (.invokespecial 27, 3) := by decide +kernel
theorem dX0_init_38 : decode cX0_init 38 = .ok (.putfield 28, 3) := by decide +kernel
theorem dX0_init_41 : decode cX0_init 41 = .ok (.return_, 1) := by decide +kernel
theorem dX0_wind_0 : decode cX0_wind 0 = .ok (.aload_n 0, 1) := by decide +kernel
theorem dX0_wind_1 : decode cX0_wind 1 = .ok (.aload_n 1, 1) := by decide +kernel
theorem dX0_wind_2 : decode cX0_wind 2 = .ok (.putfield 28, 3) := by decide +kernel
theorem dX0_wind_5 : decode cX0_wind 5 = .ok (.aload_n 0, 1) := by decide +kernel
theorem dX0_wind_6 : decode cX0_wind 6 = .ok (.aload_n 2, 1) := by decide +kernel
theorem dX0_wind_7 : decode cX0_wind 7 = .ok (.putfield 32, 3) := by decide +kernel
theorem dX0_wind_10 : decode cX0_wind 10 = .ok (.aload_n 0, 1) := by decide +kernel
theorem dX0_wind_11 : decode cX0_wind 11 = .ok (.iload_n 3, 1) := by decide +kernel
theorem dX0_wind_12 : decode cX0_wind 12 = .ok (.putfield 36, 3) := by decide +kernel
theorem dX0_wind_15 : decode cX0_wind 15 = .ok (.return_, 1) := by decide +kernel
theorem dX0_run_0 : decode cX0_run 0 = .ok (.iconst 0, 1) := by decide +kernel
theorem dX0_run_1 : decode cX0_run 1 = .ok (.istore_n 3, 1) := by decide +kernel
theorem dX0_run_2 : decode cX0_run 2 = .ok (.iload_n 3, 1) := by decide +kernel
theorem dX0_run_3 : decode cX0_run 3 = .ok (.iload_n 2, 1) := by decide +kernel
theorem dX0_run_4 : decode cX0_run 4 = .ok (.if_icmp .ge 15, 3) := by decide +kernel
theorem dX0_run_7 : decode cX0_run 7 = .ok (.aload_n 0, 1) := by decide +kernel
theorem dX0_run_8 : decode cX0_run 8 = .ok (.aload_n 1, 1) := by decide +kernel
theorem dX0_run_9 : decode cX0_run 9 = .ok (.invokevirtual 40, 3) := by decide +kernel
theorem dX0_run_12 : decode cX0_run 12 = .ok (.pop, 1) := by decide +kernel
theorem dX0_run_13 : decode cX0_run 13 = .ok (.iinc 3 1, 3) := by decide +kernel
theorem dX0_run_16 : decode cX0_run 16 = .ok (.goto (-14), 3) := by decide +kernel
theorem dX0_run_19 : decode cX0_run 19 = .ok (.return_, 1) := by decide +kernel
theorem dX0_pass_0 : decode cX0_pass 0 = .ok (.aload_n 0, 1) := by decide +kernel
theorem dX0_pass_1 : decode cX0_pass 1 = .ok (.getfield 12, 3) := by decide +kernel
theorem dX0_pass_4 : decode cX0_pass 4 = .ok (.aload_n 1, 1) := by decide +kernel
theorem dX0_pass_5 : decode cX0_pass 5 = .ok (.getfield 44, 3) := by decide +kernel
theorem dX0_pass_8 : decode cX0_pass 8 = .ok (.invokevirtual 50, 3) := by decide +kernel
theorem dX0_pass_11 : decode cX0_pass 11 = .ok (.aload_n 0, 1) := by decide +kernel
theorem dX0_pass_12 : decode cX0_pass 12 = .ok (.aload_n 1, 1) := by decide +kernel
theorem dX0_pass_13 : decode cX0_pass 13 = .ok (.invokevirtual 54, 3) := by decide +kernel
theorem dX0_pass_16 : decode cX0_pass 16 = .ok (.iconst 0, 1) := by decide +kernel
theorem dX0_pass_17 : decode cX0_pass 17 = .ok (.istore_n 2, 1) := by decide +kernel
theorem dX0_pass_18 : decode cX0_pass 18 = .ok (.iconst 0, 1) := by decide +kernel
theorem dX0_pass_19 : decode cX0_pass 19 = .ok (.istore_n 3, 1) := by decide +kernel
theorem dX0_pass_20 : decode cX0_pass 20 = .ok (.iload_n 3, 1) := by decide +kernel
theorem dX0_pass_21 : decode cX0_pass 21 = .ok (.aload_n 0, 1) := by decide +kernel
theorem dX0_pass_22 : decode cX0_pass 22 = .ok (.getfield 28, 3) := by decide +kernel
theorem dX0_pass_25 : decode cX0_pass 25 = .ok (.getfield 58, 3) := by decide +kernel
theorem dX0_pass_28 : decode cX0_pass 28 = .ok (.if_icmp .ge 112, 3) := by decide +kernel
theorem dX0_pass_31 : decode cX0_pass 31 = .ok (.aload_n 0, 1) := by decide +kernel
theorem dX0_pass_32 : decode cX0_pass 32 = .ok (.getfield 18, 3) := by decide +kernel
theorem dX0_pass_35 : decode cX0_pass 35 = .ok (.iload_n 3, 1) := by decide +kernel
theorem dX0_pass_36 : decode cX0_pass 36 = .ok (.iconst (-1), 1) := by decide +kernel
theorem dX0_pass_37 : decode cX0_pass 37 = .ok (.iastore, 1) := by decide +kernel
theorem dX0_pass_38 : decode cX0_pass 38 = .ok (.aload_n 1, 1) := by decide +kernel
theorem dX0_pass_39 : decode cX0_pass 39 = .ok (.getfield 61, 3) := by decide +kernel
theorem dX0_pass_42 : decode cX0_pass 42 = .ok (.iload_n 3, 1) := by decide +kernel
theorem dX0_pass_43 : decode cX0_pass 43 = .ok (.iaload, 1) := by decide +kernel
theorem dX0_pass_44 : decode cX0_pass 44 = .ok (.aload_n 0, 1) := by decide +kernel
theorem dX0_pass_45 : decode cX0_pass 45 = .ok (.getfield 28, 3) := by decide +kernel
theorem dX0_pass_48 : decode cX0_pass 48 = .ok (.getfield 64, 3) := by decide +kernel
theorem dX0_pass_51 : decode cX0_pass 51 = .ok (.iload_n 3, 1) := by decide +kernel
theorem dX0_pass_52 : decode cX0_pass 52 = .ok (.iaload, 1) := by decide +kernel
theorem dX0_pass_53 : decode cX0_pass 53 = .ok (.if_icmp .ne 23, 3) := by decide +kernel
theorem dX0_pass_56 : decode cX0_pass 56 = .ok (.aload_n 1, 1) := by decide +kernel
theorem dX0_pass_57 : decode cX0_pass 57 = .ok (.getfield 61, 3) := by decide +kernel
theorem dX0_pass_60 : decode cX0_pass 60 = .ok (.iload_n 3, 1) := by decide +kernel
theorem dX0_pass_61 : decode cX0_pass 61 = .ok (.iconst (-1), 1) := by decide +kernel
theorem dX0_pass_62 : decode cX0_pass 62 = .ok (.iastore, 1) := by decide +kernel
theorem dX0_pass_63 : decode cX0_pass 63 = .ok (.aload_n 1, 1) := by decide +kernel
theorem dX0_pass_64 : decode cX0_pass 64 = .ok (.dup, 1) := by decide +kernel
theorem dX0_pass_65 : decode cX0_pass 65 = .ok (.getfield 67, 3) := by decide +kernel
theorem dX0_pass_68 : decode cX0_pass 68 = .ok (.iconst 1, 1) := by decide +kernel
theorem dX0_pass_69 : decode cX0_pass 69 = .ok (.iadd, 1) := by decide +kernel
theorem dX0_pass_70 : decode cX0_pass 70 = .ok (.putfield 67, 3) := by decide +kernel
theorem dX0_pass_73 : decode cX0_pass 73 = .ok (.goto 61, 3) := by decide +kernel
theorem dX0_pass_76 : decode cX0_pass 76 = .ok (.aload_n 1, 1) := by decide +kernel
theorem dX0_pass_77 : decode cX0_pass 77 = .ok (.getfield 61, 3) := by decide +kernel
theorem dX0_pass_80 : decode cX0_pass 80 = .ok (.iload_n 3, 1) := by decide +kernel
theorem dX0_pass_81 : decode cX0_pass 81 = .ok (.iaload, 1) := by decide +kernel
theorem dX0_pass_82 : decode cX0_pass 82 = .ok (.iconst (-1), 1) := by decide +kernel
theorem dX0_pass_83 : decode cX0_pass 83 = .ok (.if_icmp .eq 51, 3) := by decide +kernel
theorem dX0_pass_86 : decode cX0_pass 86 = .ok (.aload_n 0, 1) := by decide +kernel
theorem dX0_pass_87 : decode cX0_pass 87 = .ok (.getfield 18, 3) := by decide +kernel
theorem dX0_pass_90 : decode cX0_pass 90 = .ok (.iload_n 3, 1) := by decide +kernel
theorem dX0_pass_91 : decode cX0_pass 91 = .ok (.aload_n 0, 1) := by decide +kernel
theorem dX0_pass_92 : decode cX0_pass 92 = .ok (.aload_n 1, 1) := by decide +kernel
theorem dX0_pass_93 : decode cX0_pass 93 = .ok (.iload_n 3, 1) := by decide +kernel
theorem dX0_pass_94 : decode cX0_pass 94 = .ok (.invokevirtual 70, 3) := by decide +kernel
theorem dX0_pass_97 : decode cX0_pass 97 = .ok (.iastore, 1) := by decide +kernel
theorem dX0_pass_98 : decode cX0_pass 98 = .ok (.iload_n 2, 1) := by decide +kernel
theorem dX0_pass_99 : decode cX0_pass 99 = .ok (.aload_n 0, 1) := by decide +kernel
theorem dX0_pass_100 : decode cX0_pass 100 = .ok (.getfield 18, 3) := by decide +kernel
theorem dX0_pass_103 : decode cX0_pass 103 = .ok (.iload_n 3, 1) := by decide +kernel
theorem dX0_pass_104 : decode cX0_pass 104 = .ok (.iaload, 1) := by decide +kernel
theorem dX0_pass_105 : decode cX0_pass 105 = .ok (.iconst (-1), 1) := by decide +kernel
theorem dX0_pass_106 : decode cX0_pass 106 = .ok (.if_icmp .ne 7, 3) := by decide +kernel
theorem dX0_pass_109 : decode cX0_pass 109 = .ok (.iconst 0, 1) := by decide +kernel
theorem dX0_pass_110 : decode cX0_pass 110 = .ok (.goto 4, 3) := by decide +kernel
theorem dX0_pass_113 : decode cX0_pass 113 = .ok (.iconst 1, 1) := by decide +kernel
theorem dX0_pass_114 : decode cX0_pass 114 = .ok (.iadd, 1) := by decide +kernel
theorem dX0_pass_115 : decode cX0_pass 115 = .ok (.istore_n 2, 1) := by decide +kernel
theorem dX0_pass_116 : decode cX0_pass 116 = .ok (.aload_n 0, 1) := by decide +kernel
theorem dX0_pass_117 : decode cX0_pass 117 = .ok (.aload_n 1, 1) := by decide +kernel
theorem dX0_pass_118 : decode cX0_pass 118 = .ok (.iload_n 3, 1) := by decide +kernel
theorem dX0_pass_119 : decode cX0_pass 119 = .ok (.invokevirtual 74, 3) := by decide +kernel
theorem dX0_pass_122 : decode cX0_pass 122 = .ok (.aload_n 1, 1) := by decide +kernel
theorem dX0_pass_123 : decode cX0_pass 123 = .ok (.getfield 61, 3) := by decide +kernel
theorem dX0_pass_126 : decode cX0_pass 126 = .ok (.iload_n 3, 1) := by decide +kernel
theorem dX0_pass_127 : decode cX0_pass 127 = .ok (.aload_n 0, 1) := by decide +kernel
theorem dX0_pass_128 : decode cX0_pass 128 = .ok (.aload_n 1, 1) := by decide +kernel
theorem dX0_pass_129 : decode cX0_pass 129 = .ok (.iload_n 3, 1) := by decide +kernel
theorem dX0_pass_130 : decode cX0_pass 130 = .ok (.invokevirtual 78, 3) := by decide +kernel
theorem dX0_pass_133 : decode cX0_pass 133 = .ok (.iastore, 1) := by decide +kernel
theorem dX0_pass_134 : decode cX0_pass 134 = .ok (.iinc 3 1, 3) := by decide +kernel
theorem dX0_pass_137 : decode cX0_pass 137 = .ok (.goto (-117), 3) := by decide +kernel
theorem dX0_pass_140 : decode cX0_pass 140 = .ok (.aload_n 0, 1) := by decide +kernel
theorem dX0_pass_141 : decode cX0_pass 141 = .ok (.aload_n 1, 1) := by decide +kernel
theorem dX0_pass_142 : decode cX0_pass 142 = .ok (.invokevirtual 81, 3) := by decide +kernel
theorem dX0_pass_145 : decode cX0_pass 145 = .ok (.aload_n 1, 1) := by decide +kernel
theorem dX0_pass_146 : decode cX0_pass 146 = .ok (.dup, 1) := by decide +kernel
theorem dX0_pass_147 : decode cX0_pass 147 = .ok (.getfield 84, 3) := by decide +kernel
theorem dX0_pass_150 : decode cX0_pass 150 = .ok (.iconst 1, 1) := by decide +kernel
theorem dX0_pass_151 : decode cX0_pass 151 = .ok (.iadd, 1) := by decide +kernel
theorem dX0_pass_152 : decode cX0_pass 152 = .ok (.putfield 84, 3) := by decide +kernel
theorem dX0_pass_155 : decode cX0_pass 155 = .ok (.iload_n 2, 1) := by decide +kernel
theorem dX0_pass_156 : decode cX0_pass 156 = .ok (.ireturn, 1) := by decide +kernel
theorem dX0_arrive_0 : decode cX0_arrive 0 = .ok (.iconst 0, 1) := by decide +kernel
theorem dX0_arrive_1 : decode cX0_arrive 1 = .ok (.istore_n 2, 1) := by decide +kernel
theorem dX0_arrive_2 : decode cX0_arrive 2 = .ok (.iload_n 2, 1) := by decide +kernel
theorem dX0_arrive_3 : decode cX0_arrive 3 = .ok (.aload_n 0, 1) := by decide +kernel
theorem dX0_arrive_4 : decode cX0_arrive 4 = .ok (.getfield 28, 3) := by decide +kernel
theorem dX0_arrive_7 : decode cX0_arrive 7 = .ok (.getfield 58, 3) := by decide +kernel
theorem dX0_arrive_10 : decode cX0_arrive 10 = .ok (.if_icmp .ge 57, 3) := by decide +kernel
theorem dX0_arrive_13 : decode cX0_arrive 13 = .ok (.aload_n 0, 1) := by decide +kernel
theorem dX0_arrive_14 : decode cX0_arrive 14 = .ok (.getfield 28, 3) := by decide +kernel
theorem dX0_arrive_17 : decode cX0_arrive 17 = .ok (.getfield 87, 3) := by decide +kernel
theorem dX0_arrive_20 : decode cX0_arrive 20 = .ok (.iload_n 2, 1) := by decide +kernel
theorem dX0_arrive_21 : decode cX0_arrive 21 = .ok (.iaload, 1) := by decide +kernel
theorem dX0_arrive_22 : decode cX0_arrive 22 = .ok (.istore_n 3, 1) := by decide +kernel
theorem dX0_arrive_23 : decode cX0_arrive 23 = .ok (.aload_n 1, 1) := by decide +kernel
theorem dX0_arrive_24 : decode cX0_arrive 24 = .ok (.getfield 61, 3) := by decide +kernel
theorem dX0_arrive_27 : decode cX0_arrive 27 = .ok (.iload_n 2, 1) := by decide +kernel
theorem dX0_arrive_28 : decode cX0_arrive 28 = .ok (.iaload, 1) := by decide +kernel
theorem dX0_arrive_29 : decode cX0_arrive 29 = .ok (.iconst (-1), 1) := by decide +kernel
theorem dX0_arrive_30 : decode cX0_arrive 30 = .ok (.if_icmp .ne 31, 3) := by decide +kernel
theorem dX0_arrive_33 : decode cX0_arrive 33 = .ok (.iload_n 3, 1) := by decide +kernel
theorem dX0_arrive_34 : decode cX0_arrive 34 = .ok (.ifCond .le 27, 3) := by decide +kernel
theorem dX0_arrive_37 : decode cX0_arrive 37 = .ok (.aload_n 1, 1) := by decide +kernel
theorem dX0_arrive_38 : decode cX0_arrive 38 = .ok (.getfield 84, 3) := by decide +kernel
theorem dX0_arrive_41 : decode cX0_arrive 41 = .ok (.iload_n 3, 1) := by decide +kernel
theorem dX0_arrive_42 : decode cX0_arrive 42 = .ok (.irem, 1) := by decide +kernel
theorem dX0_arrive_43 : decode cX0_arrive 43 = .ok (.ifCond .ne 18, 3) := by decide +kernel
theorem dX0_arrive_46 : decode cX0_arrive 46 = .ok (.aload_n 1, 1) := by decide +kernel
theorem dX0_arrive_47 : decode cX0_arrive 47 = .ok (.getfield 61, 3) := by decide +kernel
theorem dX0_arrive_50 : decode cX0_arrive 50 = .ok (.iload_n 2, 1) := by decide +kernel
theorem dX0_arrive_51 : decode cX0_arrive 51 = .ok (.aload_n 0, 1) := by decide +kernel
theorem dX0_arrive_52 : decode cX0_arrive 52 = .ok (.getfield 28, 3) := by decide +kernel
theorem dX0_arrive_55 : decode cX0_arrive 55 = .ok (.getfield 90, 3) := by decide +kernel
theorem dX0_arrive_58 : decode cX0_arrive 58 = .ok (.iload_n 2, 1) := by decide +kernel
theorem dX0_arrive_59 : decode cX0_arrive 59 = .ok (.iaload, 1) := by decide +kernel
theorem dX0_arrive_60 : decode cX0_arrive 60 = .ok (.iastore, 1) := by decide +kernel
theorem dX0_arrive_61 : decode cX0_arrive 61 = .ok (.iinc 2 1, 3) := by decide +kernel
theorem dX0_arrive_64 : decode cX0_arrive 64 = .ok (.goto (-62), 3) := by decide +kernel
theorem dX0_arrive_67 : decode cX0_arrive 67 = .ok (.return_, 1) := by decide +kernel
theorem dX0_choose_0 : decode cX0_choose 0 = .ok (.iconst (-1), 1) := by decide +kernel
theorem dX0_choose_1 : decode cX0_choose 1 = .ok (.istore_n 3, 1) := by decide +kernel
theorem dX0_choose_2 : decode cX0_choose 2 = .ok (.aload_n 0, 1) := by decide +kernel
theorem dX0_choose_3 : decode cX0_choose 3 = .ok (.getfield 32, 3) := by decide +kernel
theorem dX0_choose_6 : decode cX0_choose 6 = .ok (.ifnonnull 9, 3) := by decide +kernel
theorem dX0_choose_9 : decode cX0_choose 9 = .ok (.ldc2_w 93, 3) := by decide +kernel
theorem dX0_choose_12 : decode cX0_choose 12 = .ok (.goto 4, 3) := by decide +kernel
theorem dX0_choose_15 : decode cX0_choose 15 = .ok (.lconst 0, 1) := by decide +kernel
theorem dX0_choose_16 : decode cX0_choose 16 = .ok (.lstore 4, 2) := by decide +kernel
theorem dX0_choose_18 : decode cX0_choose 18 = .ok (.aload_n 0, 1) := by decide +kernel
theorem dX0_choose_19 : decode cX0_choose 19 = .ok (.getfield 32, 3) := by decide +kernel
theorem dX0_choose_22 : decode cX0_choose 22 = .ok (.ifnull 9, 3) := by decide +kernel
theorem dX0_choose_25 : decode cX0_choose 25 = .ok (.aload_n 0, 1) := by decide +kernel
theorem dX0_choose_26 : decode cX0_choose 26 = .ok (.aload_n 1, 1) := by decide +kernel
theorem dX0_choose_27 : decode cX0_choose 27 = .ok (.iload_n 2, 1) := by decide +kernel
theorem dX0_choose_28 : decode cX0_choose 28 = .ok (.invokevirtual 95, 3) := by decide +kernel
theorem dX0_choose_31 : decode cX0_choose 31 = .ok (.iconst 0, 1) := by decide +kernel
theorem dX0_choose_32 : decode cX0_choose 32 = .ok (.istore 6, 2) := by decide +kernel
theorem dX0_choose_34 : decode cX0_choose 34 = .ok (.iload 6, 2) := by decide +kernel
theorem dX0_choose_36 : decode cX0_choose 36 = .ok (.aload_n 0, 1) := by decide +kernel
theorem dX0_choose_37 : decode cX0_choose 37 = .ok (.getfield 28, 3) := by decide +kernel
theorem dX0_choose_40 : decode cX0_choose 40 = .ok (.getfield 98, 3) := by decide +kernel
theorem dX0_choose_43 : decode cX0_choose 43 = .ok (.if_icmp .ge 78, 3) := by decide +kernel
theorem dX0_choose_46 : decode cX0_choose 46 = .ok (.aload_n 1, 1) := by decide +kernel
theorem dX0_choose_47 : decode cX0_choose 47 = .ok (.getfield 101, 3) := by decide +kernel
theorem dX0_choose_50 : decode cX0_choose 50 = .ok (.iload 6, 2) := by decide +kernel
theorem dX0_choose_52 : decode cX0_choose 52 = .ok (.iaload, 1) := by decide +kernel
theorem dX0_choose_53 : decode cX0_choose 53 = .ok (.aload_n 1, 1) := by decide +kernel
theorem dX0_choose_54 : decode cX0_choose 54 = .ok (.getfield 61, 3) := by decide +kernel
theorem dX0_choose_57 : decode cX0_choose 57 = .ok (.iload_n 2, 1) := by decide +kernel
theorem dX0_choose_58 : decode cX0_choose 58 = .ok (.iaload, 1) := by decide +kernel
theorem dX0_choose_59 : decode cX0_choose 59 = .ok (.if_icmp .ne 56, 3) := by decide +kernel
theorem dX0_choose_62 : decode cX0_choose 62 = .ok (.aload_n 1, 1) := by decide +kernel
theorem dX0_choose_63 : decode cX0_choose 63 = .ok (.getfield 104, 3) := by decide +kernel
theorem dX0_choose_66 : decode cX0_choose 66 = .ok (.iload 6, 2) := by decide +kernel
theorem dX0_choose_68 : decode cX0_choose 68 = .ok (.iaload, 1) := by decide +kernel
theorem dX0_choose_69 : decode cX0_choose 69 = .ok (.i2l, 1) := by decide +kernel
theorem dX0_choose_70 : decode cX0_choose 70 = .ok (.lstore 7, 2) := by decide +kernel
theorem dX0_choose_72 : decode cX0_choose 72 = .ok (.aload_n 0, 1) := by decide +kernel
theorem dX0_choose_73 : decode cX0_choose 73 = .ok (.getfield 32, 3) := by decide +kernel
theorem dX0_choose_76 : decode cX0_choose 76 = .ok (.ifnull 24, 3) := by decide +kernel
theorem dX0_choose_79 : decode cX0_choose 79 = .ok (.aload_n 0, 1) := by decide +kernel
theorem dX0_choose_80 : decode cX0_choose 80 = .ok (.aload_n 1, 1) := by decide +kernel
theorem dX0_choose_81 : decode cX0_choose 81 = .ok (.iload_n 2, 1) := by decide +kernel
theorem dX0_choose_82 : decode cX0_choose 82 = .ok (.iload 6, 2) := by decide +kernel
theorem dX0_choose_84 : decode cX0_choose 84 = .ok (.invokevirtual 107, 3) := by decide +kernel
theorem dX0_choose_87 : decode cX0_choose 87 = .ok (.aload_n 0, 1) := by decide +kernel
theorem dX0_choose_88 : decode cX0_choose 88 = .ok (.getfield 32, 3) := by decide +kernel
theorem dX0_choose_91 : decode cX0_choose 91 = .ok (.aload_n 0, 1) := by decide +kernel
theorem dX0_choose_92 : decode cX0_choose 92 = .ok (.getfield 22, 3) := by decide +kernel
theorem dX0_choose_95 : decode cX0_choose 95 = .ok (.invokevirtual 111, 3) := by decide +kernel
theorem dX0_choose_98 : decode cX0_choose 98 = .ok (.lstore 7, 2) := by decide +kernel
theorem dX0_choose_100 : decode cX0_choose 100 = .ok (.lload 7, 2) := by decide +kernel
theorem dX0_choose_102 : decode cX0_choose 102 = .ok (.lload 4, 2) := by decide +kernel
theorem dX0_choose_104 : decode cX0_choose 104 = .ok (.lcmp, 1) := by decide +kernel
theorem dX0_choose_105 : decode cX0_choose 105 = .ok (.ifCond .le 10, 3) := by decide +kernel
theorem dX0_choose_108 : decode cX0_choose 108 = .ok (.lload 7, 2) := by decide +kernel
theorem dX0_choose_110 : decode cX0_choose 110 = .ok (.lstore 4, 2) := by decide +kernel
theorem dX0_choose_112 : decode cX0_choose 112 = .ok (.iload 6, 2) := by decide +kernel
theorem dX0_choose_114 : decode cX0_choose 114 = .ok (.istore_n 3, 1) := by decide +kernel
theorem dX0_choose_115 : decode cX0_choose 115 = .ok (.iinc 6 1, 3) := by decide +kernel
theorem dX0_choose_118 : decode cX0_choose 118 = .ok (.goto (-84), 3) := by decide +kernel
theorem dX0_choose_121 : decode cX0_choose 121 = .ok (.iload_n 3, 1) := by decide +kernel
theorem dX0_choose_122 : decode cX0_choose 122 = .ok (.ireturn, 1) := by decide +kernel
theorem dX0_tellOfStranger_0 : decode cX0_tellOfStranger 0 = .ok (.iconst 0, 1) := by decide +kernel
theorem dX0_tellOfStranger_1 : decode cX0_tellOfStranger 1 = .ok (.istore_n 3, 1) := by decide +kernel
theorem dX0_tellOfStranger_2 : decode cX0_tellOfStranger 2 = .ok (.iconst 0, 1) := by decide +kernel
theorem dX0_tellOfStranger_3 : decode cX0_tellOfStranger 3 = .ok (.istore 4, 2) := by decide +kernel
theorem dX0_tellOfStranger_5 : decode cX0_tellOfStranger 5 = .ok (.iload 4, 2) := by decide +kernel
theorem dX0_tellOfStranger_7 : decode cX0_tellOfStranger 7 = .ok (.aload_n 0, 1) := by decide +kernel
theorem dX0_tellOfStranger_8 : decode cX0_tellOfStranger 8 = .ok (.getfield 28, 3) := by decide +kernel
theorem dX0_tellOfStranger_11 : decode cX0_tellOfStranger 11 = .ok (.getfield 98, 3) := by decide +kernel
theorem dX0_tellOfStranger_14 : decode cX0_tellOfStranger 14 = .ok (.if_icmp .ge 33, 3) := by decide +kernel
theorem dX0_tellOfStranger_17 : decode cX0_tellOfStranger 17 = .ok (.iload_n 3, 1) := by decide +kernel
theorem dX0_tellOfStranger_18 : decode cX0_tellOfStranger 18 = .ok (.aload_n 1, 1) := by decide +kernel
theorem dX0_tellOfStranger_19 : decode cX0_tellOfStranger 19 = .ok (.getfield 101, 3) := by decide +kernel
theorem dX0_tellOfStranger_22 : decode cX0_tellOfStranger 22 = .ok (.iload 4, 2) := by decide +kernel
theorem dX0_tellOfStranger_24 : decode cX0_tellOfStranger 24 = .ok (.iaload, 1) := by decide +kernel
theorem dX0_tellOfStranger_25 : decode cX0_tellOfStranger 25 = .ok (.aload_n 1, 1) := by decide +kernel
theorem dX0_tellOfStranger_26 : decode cX0_tellOfStranger 26 = .ok (.getfield 61, 3) := by decide +kernel
theorem dX0_tellOfStranger_29 : decode cX0_tellOfStranger 29 = .ok (.iload_n 2, 1) := by decide +kernel
theorem dX0_tellOfStranger_30 : decode cX0_tellOfStranger 30 = .ok (.iaload, 1) := by decide +kernel
theorem dX0_tellOfStranger_31 : decode cX0_tellOfStranger 31 = .ok (.if_icmp .ne 7, 3) := by decide +kernel
theorem dX0_tellOfStranger_34 : decode cX0_tellOfStranger 34 = .ok (.iconst 1, 1) := by decide +kernel
theorem dX0_tellOfStranger_35 : decode cX0_tellOfStranger 35 = .ok (.goto 4, 3) := by decide +kernel
theorem dX0_tellOfStranger_38 : decode cX0_tellOfStranger 38 = .ok (.iconst 0, 1) := by decide +kernel
theorem dX0_tellOfStranger_39 : decode cX0_tellOfStranger 39 = .ok (.iadd, 1) := by decide +kernel
theorem dX0_tellOfStranger_40 : decode cX0_tellOfStranger 40 = .ok (.istore_n 3, 1) := by decide +kernel
theorem dX0_tellOfStranger_41 : decode cX0_tellOfStranger 41 = .ok (.iinc 4 1, 3) := by decide +kernel
theorem dX0_tellOfStranger_44 : decode cX0_tellOfStranger 44 = .ok (.goto (-39), 3) := by decide +kernel
theorem dX0_tellOfStranger_47 : decode cX0_tellOfStranger 47 = .ok (.aload_n 0, 1) := by decide +kernel
theorem dX0_tellOfStranger_48 : decode cX0_tellOfStranger 48 = .ok (.getfield 22, 3) := by decide +kernel
theorem dX0_tellOfStranger_51 : decode cX0_tellOfStranger 51 = .ok (.iconst 0, 1) := by decide +kernel
theorem dX0_tellOfStranger_52 : decode cX0_tellOfStranger 52 = .ok (.iload_n 2, 1) := by decide +kernel
theorem dX0_tellOfStranger_53 : decode cX0_tellOfStranger 53 = .ok (.iastore, 1) := by decide +kernel
theorem dX0_tellOfStranger_54 : decode cX0_tellOfStranger 54 = .ok (.aload_n 0, 1) := by decide +kernel
theorem dX0_tellOfStranger_55 : decode cX0_tellOfStranger 55 = .ok (.getfield 22, 3) := by decide +kernel
theorem dX0_tellOfStranger_58 : decode cX0_tellOfStranger 58 = .ok (.iconst 5, 1) := by decide +kernel
theorem dX0_tellOfStranger_59 : decode cX0_tellOfStranger 59 = .ok (.iload_n 3, 1) := by decide +kernel
theorem dX0_tellOfStranger_60 : decode cX0_tellOfStranger 60 = .ok (.iconst 1, 1) := by decide +kernel
theorem dX0_tellOfStranger_61 : decode cX0_tellOfStranger 61 = .ok (.isub, 1) := by decide +kernel
theorem dX0_tellOfStranger_62 : decode cX0_tellOfStranger 62 = .ok (.iastore, 1) := by decide +kernel
theorem dX0_tellOfStranger_63 : decode cX0_tellOfStranger 63 = .ok (.aload_n 0, 1) := by decide +kernel
theorem dX0_tellOfStranger_64 : decode cX0_tellOfStranger 64 = .ok (.getfield 22, 3) := by decide +kernel
theorem dX0_tellOfStranger_67 : decode cX0_tellOfStranger 67 = .ok (.bipush 6, 2) := by decide +kernel
theorem dX0_tellOfStranger_69 : decode cX0_tellOfStranger 69 = .ok (.aload_n 1, 1) := by decide +kernel
theorem dX0_tellOfStranger_70 : decode cX0_tellOfStranger 70 = .ok (.getfield 61, 3) := by decide +kernel
theorem dX0_tellOfStranger_73 : decode cX0_tellOfStranger 73 = .ok (.iload_n 2, 1) := by decide +kernel
theorem dX0_tellOfStranger_74 : decode cX0_tellOfStranger 74 = .ok (.iaload, 1) := by decide +kernel
theorem dX0_tellOfStranger_75 : decode cX0_tellOfStranger 75 = .ok (.iastore, 1) := by decide +kernel
theorem dX0_tellOfStranger_76 : decode cX0_tellOfStranger 76 = .ok (.aload_n 0, 1) := by decide +kernel
theorem dX0_tellOfStranger_77 : decode cX0_tellOfStranger 77 = .ok (.getfield 22, 3) := by decide +kernel
theorem dX0_tellOfStranger_80 : decode cX0_tellOfStranger 80 = .ok (.bipush 7, 2) := by decide +kernel
theorem dX0_tellOfStranger_82 : decode cX0_tellOfStranger 82 = .ok (.aload_n 0, 1) := by decide +kernel
theorem dX0_tellOfStranger_83 : decode cX0_tellOfStranger 83 = .ok (.getfield 12, 3) := by decide +kernel
theorem dX0_tellOfStranger_86 : decode cX0_tellOfStranger 86 = .ok (.aload_n 1, 1) := by decide +kernel
theorem dX0_tellOfStranger_87 : decode cX0_tellOfStranger 87 = .ok (.getfield 61, 3) := by decide +kernel
theorem dX0_tellOfStranger_90 : decode cX0_tellOfStranger 90 = .ok (.iload_n 2, 1) := by decide +kernel
theorem dX0_tellOfStranger_91 : decode cX0_tellOfStranger 91 = .ok (.iaload, 1) := by decide +kernel
theorem dX0_tellOfStranger_92 : decode cX0_tellOfStranger 92 = .ok (.aload_n 0, 1) := by decide +kernel
theorem dX0_tellOfStranger_93 : decode cX0_tellOfStranger 93 = .ok (.getfield 28, 3) := by decide +kernel
theorem dX0_tellOfStranger_96 : decode cX0_tellOfStranger 96 = .ok (.getfield 64, 3) := by decide +kernel
theorem dX0_tellOfStranger_99 : decode cX0_tellOfStranger 99 = .ok (.iload_n 2, 1) := by decide +kernel
theorem dX0_tellOfStranger_100 : decode cX0_tellOfStranger 100 = .ok (.iaload, 1) := by decide +kernel
theorem dX0_tellOfStranger_101 : decode cX0_tellOfStranger 101 = .ok (.invokevirtual 117, 3) := by decide +kernel
theorem dX0_tellOfStranger_104 : decode cX0_tellOfStranger 104 = .ok (.iastore, 1) := by decide +kernel
theorem dX0_tellOfStranger_105 : decode cX0_tellOfStranger 105 = .ok (.aload_n 0, 1) := by decide +kernel
theorem dX0_tellOfStranger_106 : decode cX0_tellOfStranger 106 = .ok (.getfield 22, 3) := by decide +kernel
theorem dX0_tellOfStranger_109 : decode cX0_tellOfStranger 109 = .ok (.bipush 9, 2) := by decide +kernel
theorem dX0_tellOfStranger_111 : decode cX0_tellOfStranger 111 = .ok (.aload_n 0, 1) := by decide +kernel
theorem dX0_tellOfStranger_112 : decode cX0_tellOfStranger 112 = .ok (.getfield 28, 3) := by decide +kernel
theorem dX0_tellOfStranger_115 : decode cX0_tellOfStranger 115 = .ok (.getfield 121, 3) := by decide +kernel
theorem dX0_tellOfStranger_118 : decode cX0_tellOfStranger 118 = .ok (.ifCond .le 18, 3) := by decide +kernel
theorem dX0_tellOfStranger_121 : decode cX0_tellOfStranger 121 = .ok (.aload_n 1, 1) := by decide +kernel
theorem dX0_tellOfStranger_122 : decode cX0_tellOfStranger 122 = .ok (.getfield 84, 3) := by decide +kernel
theorem dX0_tellOfStranger_125 : decode cX0_tellOfStranger 125 = .ok (.aload_n 0, 1) := by decide +kernel
theorem dX0_tellOfStranger_126 : decode cX0_tellOfStranger 126 = .ok (.getfield 28, 3) := by decide +kernel
theorem dX0_tellOfStranger_129 : decode cX0_tellOfStranger 129 = .ok (.getfield 121, 3) := by decide +kernel
theorem dX0_tellOfStranger_132 : decode cX0_tellOfStranger 132 = .ok (.irem, 1) := by decide +kernel
theorem dX0_tellOfStranger_133 : decode cX0_tellOfStranger 133 = .ok (.goto 4, 3) := by decide +kernel
theorem dX0_tellOfStranger_136 : decode cX0_tellOfStranger 136 = .ok (.iconst 0, 1) := by decide +kernel
theorem dX0_tellOfStranger_137 : decode cX0_tellOfStranger 137 = .ok (.iastore, 1) := by decide +kernel
theorem dX0_tellOfStranger_138 : decode cX0_tellOfStranger 138 = .ok (.aload_n 0, 1) := by decide +kernel
theorem dX0_tellOfStranger_139 : decode cX0_tellOfStranger 139 = .ok (.getfield 22, 3) := by decide +kernel
theorem dX0_tellOfStranger_142 : decode cX0_tellOfStranger 142 = .ok (.bipush 10, 2) := by decide +kernel
theorem dX0_tellOfStranger_144 : decode cX0_tellOfStranger 144 = .ok (.aload_n 1, 1) := by decide +kernel
theorem dX0_tellOfStranger_145 : decode cX0_tellOfStranger 145 = .ok (.getfield 67, 3) := by decide +kernel
theorem dX0_tellOfStranger_148 : decode cX0_tellOfStranger 148 = .ok (.iastore, 1) := by decide +kernel
theorem dX0_tellOfStranger_149 : decode cX0_tellOfStranger 149 = .ok (.aload_n 0, 1) := by decide +kernel
theorem dX0_tellOfStranger_150 : decode cX0_tellOfStranger 150 = .ok (.getfield 22, 3) := by decide +kernel
theorem dX0_tellOfStranger_153 : decode cX0_tellOfStranger 153 = .ok (.bipush 11, 2) := by decide +kernel
theorem dX0_tellOfStranger_155 : decode cX0_tellOfStranger 155 = .ok (.aload_n 1, 1) := by decide +kernel
theorem dX0_tellOfStranger_156 : decode cX0_tellOfStranger 156 = .ok (.getfield 84, 3) := by decide +kernel
theorem dX0_tellOfStranger_159 : decode cX0_tellOfStranger 159 = .ok (.iastore, 1) := by decide +kernel
theorem dX0_tellOfStranger_160 : decode cX0_tellOfStranger 160 = .ok (.return_, 1) := by decide +kernel
theorem dX0_tellOfPerson_0 : decode cX0_tellOfPerson 0 = .ok (.aload_n 0, 1) := by decide +kernel
theorem dX0_tellOfPerson_1 : decode cX0_tellOfPerson 1 = .ok (.getfield 22, 3) := by decide +kernel
theorem dX0_tellOfPerson_4 : decode cX0_tellOfPerson 4 = .ok (.iconst 1, 1) := by decide +kernel
theorem dX0_tellOfPerson_5 : decode cX0_tellOfPerson 5 = .ok (.iload_n 3, 1) := by decide +kernel
theorem dX0_tellOfPerson_6 : decode cX0_tellOfPerson 6 = .ok (.iastore, 1) := by decide +kernel
theorem dX0_tellOfPerson_7 : decode cX0_tellOfPerson 7 = .ok (.aload_n 0, 1) := by decide +kernel
theorem dX0_tellOfPerson_8 : decode cX0_tellOfPerson 8 = .ok (.getfield 22, 3) := by decide +kernel
theorem dX0_tellOfPerson_11 : decode cX0_tellOfPerson 11 = .ok (.iconst 2, 1) := by decide +kernel
theorem dX0_tellOfPerson_12 : decode cX0_tellOfPerson 12 = .ok (.aload_n 1, 1) := by decide +kernel
theorem dX0_tellOfPerson_13 : decode cX0_tellOfPerson 13 = .ok (.getfield 104, 3) := by decide +kernel
theorem dX0_tellOfPerson_16 : decode cX0_tellOfPerson 16 = .ok (.iload_n 3, 1) := by decide +kernel
theorem dX0_tellOfPerson_17 : decode cX0_tellOfPerson 17 = .ok (.iaload, 1) := by decide +kernel
theorem dX0_tellOfPerson_18 : decode cX0_tellOfPerson 18 = .ok (.iastore, 1) := by decide +kernel
theorem dX0_tellOfPerson_19 : decode cX0_tellOfPerson 19 = .ok (.aload_n 0, 1) := by decide +kernel
theorem dX0_tellOfPerson_20 : decode cX0_tellOfPerson 20 = .ok (.getfield 22, 3) := by decide +kernel
theorem dX0_tellOfPerson_23 : decode cX0_tellOfPerson 23 = .ok (.iconst 3, 1) := by decide +kernel
theorem dX0_tellOfPerson_24 : decode cX0_tellOfPerson 24 = .ok (.aload_n 1, 1) := by decide +kernel
theorem dX0_tellOfPerson_25 : decode cX0_tellOfPerson 25 = .ok (.getfield 124, 3) := by decide +kernel
theorem dX0_tellOfPerson_28 : decode cX0_tellOfPerson 28 = .ok (.iload_n 3, 1) := by decide +kernel
theorem dX0_tellOfPerson_29 : decode cX0_tellOfPerson 29 = .ok (.iaload, 1) := by decide +kernel
theorem dX0_tellOfPerson_30 : decode cX0_tellOfPerson 30 = .ok (.iastore, 1) := by decide +kernel
theorem dX0_tellOfPerson_31 : decode cX0_tellOfPerson 31 = .ok (.aload_n 0, 1) := by decide +kernel
theorem dX0_tellOfPerson_32 : decode cX0_tellOfPerson 32 = .ok (.getfield 22, 3) := by decide +kernel
theorem dX0_tellOfPerson_35 : decode cX0_tellOfPerson 35 = .ok (.iconst 4, 1) := by decide +kernel
theorem dX0_tellOfPerson_36 : decode cX0_tellOfPerson 36 = .ok (.aload_n 1, 1) := by decide +kernel
theorem dX0_tellOfPerson_37 : decode cX0_tellOfPerson 37 = .ok (.getfield 127, 3) := by decide +kernel
theorem dX0_tellOfPerson_40 : decode cX0_tellOfPerson 40 = .ok (.iload_n 2, 1) := by decide +kernel
theorem dX0_tellOfPerson_41 : decode cX0_tellOfPerson 41 = .ok (.bipush 6, 2) := by decide +kernel
theorem dX0_tellOfPerson_43 : decode cX0_tellOfPerson 43 = .ok (.imul, 1) := by decide +kernel
theorem dX0_tellOfPerson_44 : decode cX0_tellOfPerson 44 = .ok (.iload_n 3, 1) := by decide +kernel
theorem dX0_tellOfPerson_45 : decode cX0_tellOfPerson 45 = .ok (.iadd, 1) := by decide +kernel
theorem dX0_tellOfPerson_46 : decode cX0_tellOfPerson 46 = .ok (.iaload, 1) := by decide +kernel
theorem dX0_tellOfPerson_47 : decode cX0_tellOfPerson 47 = .ok (.iastore, 1) := by decide +kernel
theorem dX0_tellOfPerson_48 : decode cX0_tellOfPerson 48 = .ok (.aload_n 0, 1) := by decide +kernel
theorem dX0_tellOfPerson_49 : decode cX0_tellOfPerson 49 = .ok (.getfield 22, 3) := by decide +kernel
theorem dX0_tellOfPerson_52 : decode cX0_tellOfPerson 52 = .ok (.bipush 8, 2) := by decide +kernel
theorem dX0_tellOfPerson_54 : decode cX0_tellOfPerson 54 = .ok (.aload_n 1, 1) := by decide +kernel
theorem dX0_tellOfPerson_55 : decode cX0_tellOfPerson 55 = .ok (.getfield 130, 3) := by decide +kernel
theorem dX0_tellOfPerson_58 : decode cX0_tellOfPerson 58 = .ok (.iload_n 3, 1) := by decide +kernel
theorem dX0_tellOfPerson_59 : decode cX0_tellOfPerson 59 = .ok (.if_icmp .ne 7, 3) := by decide +kernel
theorem dX0_tellOfPerson_62 : decode cX0_tellOfPerson 62 = .ok (.iconst 1, 1) := by decide +kernel
theorem dX0_tellOfPerson_63 : decode cX0_tellOfPerson 63 = .ok (.goto 4, 3) := by decide +kernel
theorem dX0_tellOfPerson_66 : decode cX0_tellOfPerson 66 = .ok (.iconst 0, 1) := by decide +kernel
theorem dX0_tellOfPerson_67 : decode cX0_tellOfPerson 67 = .ok (.iastore, 1) := by decide +kernel
theorem dX0_tellOfPerson_68 : decode cX0_tellOfPerson 68 = .ok (.return_, 1) := by decide +kernel
theorem dX0_countAsked_0 : decode cX0_countAsked 0 = .ok (.aload_n 0, 1) := by decide +kernel
theorem dX0_countAsked_1 : decode cX0_countAsked 1 = .ok (.getfield 18, 3) := by decide +kernel
theorem dX0_countAsked_4 : decode cX0_countAsked 4 = .ok (.iload_n 2, 1) := by decide +kernel
theorem dX0_countAsked_5 : decode cX0_countAsked 5 = .ok (.iaload, 1) := by decide +kernel
theorem dX0_countAsked_6 : decode cX0_countAsked 6 = .ok (.istore_n 3, 1) := by decide +kernel
theorem dX0_countAsked_7 : decode cX0_countAsked 7 = .ok (.iload_n 3, 1) := by decide +kernel
theorem dX0_countAsked_8 : decode cX0_countAsked 8 = .ok (.iconst (-1), 1) := by decide +kernel
theorem dX0_countAsked_9 : decode cX0_countAsked 9 = .ok (.if_icmp .eq 38, 3) := by decide +kernel
theorem dX0_countAsked_12 : decode cX0_countAsked 12 = .ok (.aload_n 1, 1) := by decide +kernel
theorem dX0_countAsked_13 : decode cX0_countAsked 13 = .ok (.getfield 124, 3) := by decide +kernel
theorem dX0_countAsked_16 : decode cX0_countAsked 16 = .ok (.iload_n 3, 1) := by decide +kernel
theorem dX0_countAsked_17 : decode cX0_countAsked 17 = .ok (.dup2, 1) := by decide +kernel
theorem dX0_countAsked_18 : decode cX0_countAsked 18 = .ok (.iaload, 1) := by decide +kernel
theorem dX0_countAsked_19 : decode cX0_countAsked 19 = .ok (.iconst 1, 1) := by decide +kernel
theorem dX0_countAsked_20 : decode cX0_countAsked 20 = .ok (.iadd, 1) := by decide +kernel
theorem dX0_countAsked_21 : decode cX0_countAsked 21 = .ok (.iastore, 1) := by decide +kernel
theorem dX0_countAsked_22 : decode cX0_countAsked 22 = .ok (.aload_n 1, 1) := by decide +kernel
theorem dX0_countAsked_23 : decode cX0_countAsked 23 = .ok (.getfield 133, 3) := by decide +kernel
theorem dX0_countAsked_26 : decode cX0_countAsked 26 = .ok (.iload_n 3, 1) := by decide +kernel
theorem dX0_countAsked_27 : decode cX0_countAsked 27 = .ok (.dup2, 1) := by decide +kernel
theorem dX0_countAsked_28 : decode cX0_countAsked 28 = .ok (.iaload, 1) := by decide +kernel
theorem dX0_countAsked_29 : decode cX0_countAsked 29 = .ok (.iconst 1, 1) := by decide +kernel
theorem dX0_countAsked_30 : decode cX0_countAsked 30 = .ok (.iadd, 1) := by decide +kernel
theorem dX0_countAsked_31 : decode cX0_countAsked 31 = .ok (.iastore, 1) := by decide +kernel
theorem dX0_countAsked_32 : decode cX0_countAsked 32 = .ok (.aload_n 1, 1) := by decide +kernel
theorem dX0_countAsked_33 : decode cX0_countAsked 33 = .ok (.getfield 127, 3) := by decide +kernel
theorem dX0_countAsked_36 : decode cX0_countAsked 36 = .ok (.iload_n 2, 1) := by decide +kernel
theorem dX0_countAsked_37 : decode cX0_countAsked 37 = .ok (.bipush 6, 2) := by decide +kernel
theorem dX0_countAsked_39 : decode cX0_countAsked 39 = .ok (.imul, 1) := by decide +kernel
theorem dX0_countAsked_40 : decode cX0_countAsked 40 = .ok (.iload_n 3, 1) := by decide +kernel
theorem dX0_countAsked_41 : decode cX0_countAsked 41 = .ok (.iadd, 1) := by decide +kernel
theorem dX0_countAsked_42 : decode cX0_countAsked 42 = .ok (.dup2, 1) := by decide +kernel
theorem dX0_countAsked_43 : decode cX0_countAsked 43 = .ok (.iaload, 1) := by decide +kernel
theorem dX0_countAsked_44 : decode cX0_countAsked 44 = .ok (.iconst 1, 1) := by decide +kernel
theorem dX0_countAsked_45 : decode cX0_countAsked 45 = .ok (.iadd, 1) := by decide +kernel
theorem dX0_countAsked_46 : decode cX0_countAsked 46 = .ok (.iastore, 1) := by decide +kernel
theorem dX0_countAsked_47 : decode cX0_countAsked 47 = .ok (.return_, 1) := by decide +kernel
theorem dX0_whereTo_0 : decode cX0_whereTo 0 = .ok (.aload_n 1, 1) := by decide +kernel
theorem dX0_whereTo_1 : decode cX0_whereTo 1 = .ok (.getfield 61, 3) := by decide +kernel
theorem dX0_whereTo_4 : decode cX0_whereTo 4 = .ok (.iload_n 2, 1) := by decide +kernel
theorem dX0_whereTo_5 : decode cX0_whereTo 5 = .ok (.iaload, 1) := by decide +kernel
theorem dX0_whereTo_6 : decode cX0_whereTo 6 = .ok (.istore_n 3, 1) := by decide +kernel
theorem dX0_whereTo_7 : decode cX0_whereTo 7 = .ok (.aload_n 1, 1) := by decide +kernel
theorem dX0_whereTo_8 : decode cX0_whereTo 8 = .ok (.getfield 44, 3) := by decide +kernel
theorem dX0_whereTo_11 : decode cX0_whereTo 11 = .ok (.iload_n 3, 1) := by decide +kernel
theorem dX0_whereTo_12 : decode cX0_whereTo 12 = .ok (.invokestatic 136, 3) := by decide +kernel
theorem dX0_whereTo_15 : decode cX0_whereTo 15 = .ok (.istore 4, 2) := by decide +kernel
theorem dX0_whereTo_17 : decode cX0_whereTo 17 = .ok (.aload_n 0, 1) := by decide +kernel
theorem dX0_whereTo_18 : decode cX0_whereTo 18 = .ok (.getfield 18, 3) := by decide +kernel
theorem dX0_whereTo_21 : decode cX0_whereTo 21 = .ok (.iload_n 2, 1) := by decide +kernel
theorem dX0_whereTo_22 : decode cX0_whereTo 22 = .ok (.iaload, 1) := by decide +kernel
theorem dX0_whereTo_23 : decode cX0_whereTo 23 = .ok (.iconst (-1), 1) := by decide +kernel
theorem dX0_whereTo_24 : decode cX0_whereTo 24 = .ok (.if_icmp .ne 10, 3) := by decide +kernel
theorem dX0_whereTo_27 : decode cX0_whereTo 27 = .ok (.iload 4, 2) := by decide +kernel
theorem dX0_whereTo_29 : decode cX0_whereTo 29 = .ok (.iload_n 3, 1) := by decide +kernel
theorem dX0_whereTo_30 : decode cX0_whereTo 30 = .ok (.invokestatic 140, 3) := by decide +kernel
theorem dX0_whereTo_33 : decode cX0_whereTo 33 = .ok (.ireturn, 1) := by decide +kernel
theorem dX0_whereTo_34 : decode cX0_whereTo 34 = .ok (.aload_n 0, 1) := by decide +kernel
theorem dX0_whereTo_35 : decode cX0_whereTo 35 = .ok (.getfield 36, 3) := by decide +kernel
theorem dX0_whereTo_38 : decode cX0_whereTo 38 = .ok (.aload_n 0, 1) := by decide +kernel
theorem dX0_whereTo_39 : decode cX0_whereTo 39 = .ok (.getfield 18, 3) := by decide +kernel
theorem dX0_whereTo_42 : decode cX0_whereTo 42 = .ok (.iload_n 2, 1) := by decide +kernel
theorem dX0_whereTo_43 : decode cX0_whereTo 43 = .ok (.iaload, 1) := by decide +kernel
theorem dX0_whereTo_44 : decode cX0_whereTo 44 = .ok (.ishr, 1) := by decide +kernel
theorem dX0_whereTo_45 : decode cX0_whereTo 45 = .ok (.iconst 1, 1) := by decide +kernel
theorem dX0_whereTo_46 : decode cX0_whereTo 46 = .ok (.iand, 1) := by decide +kernel
theorem dX0_whereTo_47 : decode cX0_whereTo 47 = .ok (.iconst 1, 1) := by decide +kernel
theorem dX0_whereTo_48 : decode cX0_whereTo 48 = .ok (.if_icmp .ne 10, 3) := by decide +kernel
theorem dX0_whereTo_51 : decode cX0_whereTo 51 = .ok (.iload 4, 2) := by decide +kernel
theorem dX0_whereTo_53 : decode cX0_whereTo 53 = .ok (.iload_n 3, 1) := by decide +kernel
theorem dX0_whereTo_54 : decode cX0_whereTo 54 = .ok (.invokestatic 143, 3) := by decide +kernel
theorem dX0_whereTo_57 : decode cX0_whereTo 57 = .ok (.ireturn, 1) := by decide +kernel
theorem dX0_whereTo_58 : decode cX0_whereTo 58 = .ok (.aload_n 0, 1) := by decide +kernel
theorem dX0_whereTo_59 : decode cX0_whereTo 59 = .ok (.getfield 12, 3) := by decide +kernel
theorem dX0_whereTo_62 : decode cX0_whereTo 62 = .ok (.iload_n 3, 1) := by decide +kernel
theorem dX0_whereTo_63 : decode cX0_whereTo 63 = .ok (.aload_n 0, 1) := by decide +kernel
theorem dX0_whereTo_64 : decode cX0_whereTo 64 = .ok (.getfield 28, 3) := by decide +kernel
theorem dX0_whereTo_67 : decode cX0_whereTo 67 = .ok (.getfield 64, 3) := by decide +kernel
theorem dX0_whereTo_70 : decode cX0_whereTo 70 = .ok (.iload_n 2, 1) := by decide +kernel
theorem dX0_whereTo_71 : decode cX0_whereTo 71 = .ok (.iaload, 1) := by decide +kernel
theorem dX0_whereTo_72 : decode cX0_whereTo 72 = .ok (.invokevirtual 146, 3) := by decide +kernel
theorem dX0_whereTo_75 : decode cX0_whereTo 75 = .ok (.ireturn, 1) := by decide +kernel
theorem dX0_closeTerm_0 : decode cX0_closeTerm 0 = .ok (.aload_n 0, 1) := by decide +kernel
theorem dX0_closeTerm_1 : decode cX0_closeTerm 1 = .ok (.getfield 28, 3) := by decide +kernel
theorem dX0_closeTerm_4 : decode cX0_closeTerm 4 = .ok (.getfield 121, 3) := by decide +kernel
theorem dX0_closeTerm_7 : decode cX0_closeTerm 7 = .ok (.ifCond .le 27, 3) := by decide +kernel
theorem dX0_closeTerm_10 : decode cX0_closeTerm 10 = .ok (.aload_n 1, 1) := by decide +kernel
theorem dX0_closeTerm_11 : decode cX0_closeTerm 11 = .ok (.getfield 84, 3) := by decide +kernel
theorem dX0_closeTerm_14 : decode cX0_closeTerm 14 = .ok (.aload_n 0, 1) := by decide +kernel
theorem dX0_closeTerm_15 : decode cX0_closeTerm 15 = .ok (.getfield 28, 3) := by decide +kernel
theorem dX0_closeTerm_18 : decode cX0_closeTerm 18 = .ok (.getfield 121, 3) := by decide +kernel
theorem dX0_closeTerm_21 : decode cX0_closeTerm 21 = .ok (.irem, 1) := by decide +kernel
theorem dX0_closeTerm_22 : decode cX0_closeTerm 22 = .ok (.aload_n 0, 1) := by decide +kernel
theorem dX0_closeTerm_23 : decode cX0_closeTerm 23 = .ok (.getfield 28, 3) := by decide +kernel
theorem dX0_closeTerm_26 : decode cX0_closeTerm 26 = .ok (.getfield 121, 3) := by decide +kernel
theorem dX0_closeTerm_29 : decode cX0_closeTerm 29 = .ok (.iconst 1, 1) := by decide +kernel
theorem dX0_closeTerm_30 : decode cX0_closeTerm 30 = .ok (.isub, 1) := by decide +kernel
theorem dX0_closeTerm_31 : decode cX0_closeTerm 31 = .ok (.if_icmp .eq 4, 3) := by decide +kernel
theorem dX0_closeTerm_34 : decode cX0_closeTerm 34 = .ok (.return_, 1) := by decide +kernel
theorem dX0_closeTerm_35 : decode cX0_closeTerm 35 = .ok (.iconst 0, 1) := by decide +kernel
theorem dX0_closeTerm_36 : decode cX0_closeTerm 36 = .ok (.istore_n 2, 1) := by decide +kernel
theorem dX0_closeTerm_37 : decode cX0_closeTerm 37 = .ok (.aload_n 1, 1) := by decide +kernel
theorem dX0_closeTerm_38 : decode cX0_closeTerm 38 = .ok (.iconst (-1), 1) := by decide +kernel
theorem dX0_closeTerm_39 : decode cX0_closeTerm 39 = .ok (.putfield 130, 3) := by decide +kernel
theorem dX0_closeTerm_42 : decode cX0_closeTerm 42 = .ok (.iconst 0, 1) := by decide +kernel
theorem dX0_closeTerm_43 : decode cX0_closeTerm 43 = .ok (.istore_n 3, 1) := by decide +kernel
theorem dX0_closeTerm_44 : decode cX0_closeTerm 44 = .ok (.iload_n 3, 1) := by decide +kernel
theorem dX0_closeTerm_45 : decode cX0_closeTerm 45 = .ok (.aload_n 0, 1) := by decide +kernel
theorem dX0_closeTerm_46 : decode cX0_closeTerm 46 = .ok (.getfield 28, 3) := by decide +kernel
theorem dX0_closeTerm_49 : decode cX0_closeTerm 49 = .ok (.getfield 98, 3) := by decide +kernel
theorem dX0_closeTerm_52 : decode cX0_closeTerm 52 = .ok (.if_icmp .ge 31, 3) := by decide +kernel
theorem dX0_closeTerm_55 : decode cX0_closeTerm 55 = .ok (.aload_n 1, 1) := by decide +kernel
theorem dX0_closeTerm_56 : decode cX0_closeTerm 56 = .ok (.getfield 124, 3) := by decide +kernel
theorem dX0_closeTerm_59 : decode cX0_closeTerm 59 = .ok (.iload_n 3, 1) := by decide +kernel
theorem dX0_closeTerm_60 : decode cX0_closeTerm 60 = .ok (.iaload, 1) := by decide +kernel
theorem dX0_closeTerm_61 : decode cX0_closeTerm 61 = .ok (.iload_n 2, 1) := by decide +kernel
theorem dX0_closeTerm_62 : decode cX0_closeTerm 62 = .ok (.if_icmp .le 15, 3) := by decide +kernel
theorem dX0_closeTerm_65 : decode cX0_closeTerm 65 = .ok (.aload_n 1, 1) := by decide +kernel
theorem dX0_closeTerm_66 : decode cX0_closeTerm 66 = .ok (.getfield 124, 3) := by decide +kernel
theorem dX0_closeTerm_69 : decode cX0_closeTerm 69 = .ok (.iload_n 3, 1) := by decide +kernel
theorem dX0_closeTerm_70 : decode cX0_closeTerm 70 = .ok (.iaload, 1) := by decide +kernel
theorem dX0_closeTerm_71 : decode cX0_closeTerm 71 = .ok (.istore_n 2, 1) := by decide +kernel
theorem dX0_closeTerm_72 : decode cX0_closeTerm 72 = .ok (.aload_n 1, 1) := by decide +kernel
theorem dX0_closeTerm_73 : decode cX0_closeTerm 73 = .ok (.iload_n 3, 1) := by decide +kernel
theorem dX0_closeTerm_74 : decode cX0_closeTerm 74 = .ok (.putfield 130, 3) := by decide +kernel
theorem dX0_closeTerm_77 : decode cX0_closeTerm 77 = .ok (.iinc 3 1, 3) := by decide +kernel
theorem dX0_closeTerm_80 : decode cX0_closeTerm 80 = .ok (.goto (-36), 3) := by decide +kernel
theorem dX0_closeTerm_83 : decode cX0_closeTerm 83 = .ok (.aload_n 1, 1) := by decide +kernel
theorem dX0_closeTerm_84 : decode cX0_closeTerm 84 = .ok (.getfield 130, 3) := by decide +kernel
theorem dX0_closeTerm_87 : decode cX0_closeTerm 87 = .ok (.iconst (-1), 1) := by decide +kernel
theorem dX0_closeTerm_88 : decode cX0_closeTerm 88 = .ok (.if_icmp .eq 16, 3) := by decide +kernel
theorem dX0_closeTerm_91 : decode cX0_closeTerm 91 = .ok (.aload_n 1, 1) := by decide +kernel
theorem dX0_closeTerm_92 : decode cX0_closeTerm 92 = .ok (.getfield 149, 3) := by decide +kernel
theorem dX0_closeTerm_95 : decode cX0_closeTerm 95 = .ok (.aload_n 1, 1) := by decide +kernel
theorem dX0_closeTerm_96 : decode cX0_closeTerm 96 = .ok (.getfield 130, 3) := by decide +kernel
theorem dX0_closeTerm_99 : decode cX0_closeTerm 99 = .ok (.dup2, 1) := by decide +kernel
theorem dX0_closeTerm_100 : decode cX0_closeTerm 100 = .ok (.iaload, 1) := by decide +kernel
theorem dX0_closeTerm_101 : decode cX0_closeTerm 101 = .ok (.iconst 1, 1) := by decide +kernel
theorem dX0_closeTerm_102 : decode cX0_closeTerm 102 = .ok (.iadd, 1) := by decide +kernel
theorem dX0_closeTerm_103 : decode cX0_closeTerm 103 = .ok (.iastore, 1) := by decide +kernel
theorem dX0_closeTerm_104 : decode cX0_closeTerm 104 = .ok (.aload_n 1, 1) := by decide +kernel
theorem dX0_closeTerm_105 : decode cX0_closeTerm 105 = .ok (.getfield 124, 3) := by decide +kernel
theorem dX0_closeTerm_108 : decode cX0_closeTerm 108 = .ok (.iconst 0, 1) := by decide +kernel
theorem dX0_closeTerm_109 : decode cX0_closeTerm 109 = .ok (.invokestatic 152, 3) := by decide +kernel
theorem dX0_closeTerm_112 : decode cX0_closeTerm 112 = .ok (.return_, 1) := by decide +kernel
theorem dX1_init_0 : decode cX1_init 0 = .ok (.aload_n 0, 1) := by decide +kernel
theorem dX1_init_1 : decode cX1_init 1 = .ok (.invokespecial 3, 3) := by decide +kernel
theorem dX1_init_4 : decode cX1_init 4 = .ok (.aload_n 0, 1) := by decide +kernel
theorem dX1_init_5 : decode cX1_init 5 = .ok (.new 9, 3) := by decide +kernel
theorem dX1_init_8 : decode cX1_init 8 = .ok (.dup, 1) := by decide +kernel
theorem dX1_init_9 : decode cX1_init 9 = .ok (.invokespecial 11, 3) := by decide +kernel
theorem dX1_init_12 : decode cX1_init 12 = .ok (.putfield 12, 3) := by decide +kernel
theorem dX1_init_15 : decode cX1_init 15 = .ok (.aload_n 0, 1) := by decide +kernel
theorem dX1_init_16 : decode cX1_init 16 = .ok (.bipush 35, 2) := by decide +kernel
theorem dX1_init_18 : decode cX1_init 18 = .ok (.newarray .int, 2) := by decide +kernel
theorem dX1_init_20 : decode cX1_init 20 = .ok (.putfield 18, 3) := by decide +kernel
theorem dX1_init_23 : decode cX1_init 23 = .ok (.aload_n 0, 1) := by decide +kernel
theorem dX1_init_24 : decode cX1_init 24 = .ok (.aload_n 1, 1) := by decide +kernel
theorem dX1_init_25 : decode cX1_init 25 = .ok (.putfield 22, 3) := by decide +kernel
theorem dX1_init_28 : decode cX1_init 28 = .ok (.aload_n 0, 1) := by decide +kernel
theorem dX1_init_29 : decode cX1_init 29 = .ok (.aload_n 2, 1) := by decide +kernel
theorem dX1_init_30 : decode cX1_init 30 = .ok (.putfield 26, 3) := by decide +kernel
theorem dX1_init_33 : decode cX1_init 33 = .ok (.return_, 1) := by decide +kernel
theorem dX1_wrongSets_0 : decode cX1_wrongSets 0 = .ok (.iconst 0, 1) := by decide +kernel
theorem dX1_wrongSets_1 : decode cX1_wrongSets 1 = .ok (.istore_n 3, 1) := by decide +kernel
theorem dX1_wrongSets_2 : decode cX1_wrongSets 2 = .ok (.bipush (-2), 2) := by decide +kernel
theorem dX1_wrongSets_4 : decode cX1_wrongSets 4 = .ok (.istore 4, 2) := by decide +kernel
theorem dX1_wrongSets_6 : decode cX1_wrongSets 6 = .ok (.iconst 1, 1) := by decide +kernel
theorem dX1_wrongSets_7 : decode cX1_wrongSets 7 = .ok (.aload_n 0, 1) := by decide +kernel
theorem dX1_wrongSets_8 : decode cX1_wrongSets 8 = .ok (.getfield 22, 3) := by decide +kernel
theorem dX1_wrongSets_11 : decode cX1_wrongSets 11 = .ok (.getfield 30, 3) := by decide +kernel
theorem dX1_wrongSets_14 : decode cX1_wrongSets 14 = .ok (.getfield 36, 3) := by decide +kernel
theorem dX1_wrongSets_17 : decode cX1_wrongSets 17 = .ok (.ishl, 1) := by decide +kernel
theorem dX1_wrongSets_18 : decode cX1_wrongSets 18 = .ok (.iconst 1, 1) := by decide +kernel
theorem dX1_wrongSets_19 : decode cX1_wrongSets 19 = .ok (.isub, 1) := by decide +kernel
theorem dX1_wrongSets_20 : decode cX1_wrongSets 20 = .ok (.istore 5, 2) := by decide +kernel
theorem dX1_wrongSets_22 : decode cX1_wrongSets 22 = .ok (.iconst 0, 1) := by decide +kernel
theorem dX1_wrongSets_23 : decode cX1_wrongSets 23 = .ok (.istore 6, 2) := by decide +kernel
theorem dX1_wrongSets_25 : decode cX1_wrongSets 25 = .ok (.iload 6, 2) := by decide +kernel
theorem dX1_wrongSets_27 : decode cX1_wrongSets 27 = .ok (.iconst 1, 1) := by decide +kernel
theorem dX1_wrongSets_28 : decode cX1_wrongSets 28 = .ok (.aload_n 0, 1) := by decide +kernel
theorem dX1_wrongSets_29 : decode cX1_wrongSets 29 = .ok (.getfield 22, 3) := by decide +kernel
theorem dX1_wrongSets_32 : decode cX1_wrongSets 32 = .ok (.getfield 30, 3) := by decide +kernel
theorem dX1_wrongSets_35 : decode cX1_wrongSets 35 = .ok (.getfield 36, 3) := by decide +kernel
theorem dX1_wrongSets_38 : decode cX1_wrongSets 38 = .ok (.ishl, 1) := by decide +kernel
theorem dX1_wrongSets_39 : decode cX1_wrongSets 39 = .ok (.if_icmp .ge 59, 3) := by decide +kernel
theorem dX1_wrongSets_42 : decode cX1_wrongSets 42 = .ok (.aload_n 0, 1) := by decide +kernel
theorem dX1_wrongSets_43 : decode cX1_wrongSets 43 = .ok (.getfield 26, 3) := by decide +kernel
theorem dX1_wrongSets_46 : decode cX1_wrongSets 46 = .ok (.aload_n 0, 1) := by decide +kernel
theorem dX1_wrongSets_47 : decode cX1_wrongSets 47 = .ok (.getfield 22, 3) := by decide +kernel
theorem dX1_wrongSets_50 : decode cX1_wrongSets 50 = .ok (.getfield 30, 3) := by decide +kernel
theorem dX1_wrongSets_53 : decode cX1_wrongSets 53 = .ok (.aload_n 1, 1) := by decide +kernel
theorem dX1_wrongSets_54 : decode cX1_wrongSets 54 = .ok (.iload 6, 2) := by decide +kernel
theorem dX1_wrongSets_56 : decode cX1_wrongSets 56 = .ok (.invokevirtual 42, 3) := by decide +kernel
theorem dX1_wrongSets_59 : decode cX1_wrongSets 59 = .ok (.aload_n 0, 1) := by decide +kernel
theorem dX1_wrongSets_60 : decode cX1_wrongSets 60 = .ok (.invokevirtual 48, 3) := by decide +kernel
theorem dX1_wrongSets_63 : decode cX1_wrongSets 63 = .ok (.ifCond .eq 29, 3) := by decide +kernel
theorem dX1_wrongSets_66 : decode cX1_wrongSets 66 = .ok (.iinc 3 1, 3) := by decide +kernel
theorem dX1_wrongSets_69 : decode cX1_wrongSets 69 = .ok (.iload 4, 2) := by decide +kernel
theorem dX1_wrongSets_71 : decode cX1_wrongSets 71 = .ok (.bipush (-2), 2) := by decide +kernel
theorem dX1_wrongSets_73 : decode cX1_wrongSets 73 = .ok (.if_icmp .ne 8, 3) := by decide +kernel
theorem dX1_wrongSets_76 : decode cX1_wrongSets 76 = .ok (.iload 6, 2) := by decide +kernel
theorem dX1_wrongSets_78 : decode cX1_wrongSets 78 = .ok (.goto 5, 3) := by decide +kernel
theorem dX1_wrongSets_81 : decode cX1_wrongSets 81 = .ok (.iload 4, 2) := by decide +kernel
theorem dX1_wrongSets_83 : decode cX1_wrongSets 83 = .ok (.istore 4, 2) := by decide +kernel
theorem dX1_wrongSets_85 : decode cX1_wrongSets 85 = .ok (.iload 5, 2) := by decide +kernel
theorem dX1_wrongSets_87 : decode cX1_wrongSets 87 = .ok (.iload 6, 2) := by decide +kernel
theorem dX1_wrongSets_89 : decode cX1_wrongSets 89 = .ok (.iand, 1) := by decide +kernel
theorem dX1_wrongSets_90 : decode cX1_wrongSets 90 = .ok (.istore 5, 2) := by decide +kernel
theorem dX1_wrongSets_92 : decode cX1_wrongSets 92 = .ok (.iinc 6 1, 3) := by decide +kernel
theorem dX1_wrongSets_95 : decode cX1_wrongSets 95 = .ok (.goto (-70), 3) := by decide +kernel
theorem dX1_wrongSets_98 : decode cX1_wrongSets 98 = .ok (.iload_n 2, 1) := by decide +kernel
theorem dX1_wrongSets_99 : decode cX1_wrongSets 99 = .ok (.lookupswitch 30 #[(0, 25), (1, 27)], 25) := by decide +kernel
theorem dX1_wrongSets_124 : decode cX1_wrongSets 124 = .ok (.iload_n 3, 1) := by decide +kernel
theorem dX1_wrongSets_125 : decode cX1_wrongSets 125 = .ok (.ireturn, 1) := by decide +kernel
theorem dX1_wrongSets_126 : decode cX1_wrongSets 126 = .ok (.iload 4, 2) := by decide +kernel
theorem dX1_wrongSets_128 : decode cX1_wrongSets 128 = .ok (.ireturn, 1) := by decide +kernel
theorem dX1_wrongSets_129 : decode cX1_wrongSets 129 = .ok (.iload_n 3, 1) := by decide +kernel
theorem dX1_wrongSets_130 : decode cX1_wrongSets 130 = .ok (.ifCond .ne 7, 3) := by decide +kernel
theorem dX1_wrongSets_133 : decode cX1_wrongSets 133 = .ok (.iconst 0, 1) := by decide +kernel
theorem dX1_wrongSets_134 : decode cX1_wrongSets 134 = .ok (.goto 5, 3) := by decide +kernel
theorem dX1_wrongSets_137 : decode cX1_wrongSets 137 = .ok (.iload 5, 2) := by decide +kernel
theorem dX1_wrongSets_139 : decode cX1_wrongSets 139 = .ok (.ireturn, 1) := by decide +kernel
theorem dX1_rulesThatFit_0 : decode cX1_rulesThatFit 0 = .ok (.iconst 0, 1) := by decide +kernel
theorem dX1_rulesThatFit_1 : decode cX1_rulesThatFit 1 = .ok (.istore 4, 2) := by decide +kernel
theorem dX1_rulesThatFit_3 : decode cX1_rulesThatFit 3 = .ok (.bipush (-2), 2) := by decide +kernel
theorem dX1_rulesThatFit_5 : decode cX1_rulesThatFit 5 = .ok (.istore 5, 2) := by decide +kernel
theorem dX1_rulesThatFit_7 : decode cX1_rulesThatFit 7 = .ok (.iconst (-1), 1) := by decide +kernel
theorem dX1_rulesThatFit_8 : decode cX1_rulesThatFit 8 = .ok (.istore 6, 2) := by decide +kernel
theorem dX1_rulesThatFit_10 : decode cX1_rulesThatFit 10 = .ok (.iload 6, 2) := by decide +kernel
theorem dX1_rulesThatFit_12 : decode cX1_rulesThatFit 12 = .ok (.iload_n 2, 1) := by decide +kernel
theorem dX1_rulesThatFit_13 : decode cX1_rulesThatFit 13 = .ok (.if_icmp .ge 73, 3) := by decide +kernel
theorem dX1_rulesThatFit_16 : decode cX1_rulesThatFit 16 = .ok (.aload_n 0, 1) := by decide +kernel
theorem dX1_rulesThatFit_17 : decode cX1_rulesThatFit 17 = .ok (.getfield 26, 3) := by decide +kernel
theorem dX1_rulesThatFit_20 : decode cX1_rulesThatFit 20 = .ok (.aload_n 0, 1) := by decide +kernel
theorem dX1_rulesThatFit_21 : decode cX1_rulesThatFit 21 = .ok (.getfield 22, 3) := by decide +kernel
theorem dX1_rulesThatFit_24 : decode cX1_rulesThatFit 24 = .ok (.getfield 30, 3) := by decide +kernel
theorem dX1_rulesThatFit_27 : decode cX1_rulesThatFit 27 = .ok (.iload 6, 2) := by decide +kernel
theorem dX1_rulesThatFit_29 : decode cX1_rulesThatFit 29 = .ok (.iconst (-1), 1) := by decide +kernel
theorem dX1_rulesThatFit_30 : decode cX1_rulesThatFit 30 = .ok (.if_icmp .ne 7, 3) := by decide +kernel
theorem dX1_rulesThatFit_33 : decode cX1_rulesThatFit 33 = .ok (.aconst_null, 1) := by decide +kernel
theorem dX1_rulesThatFit_34 : decode cX1_rulesThatFit 34 = .ok (.goto 7, 3) := by decide +kernel
theorem dX1_rulesThatFit_37 : decode cX1_rulesThatFit 37 = .ok (.aload_n 1, 1) := by decide +kernel
theorem dX1_rulesThatFit_38 : decode cX1_rulesThatFit 38 = .ok (.iload 6, 2) := by decide +kernel
theorem dX1_rulesThatFit_40 : decode cX1_rulesThatFit 40 = .ok (.aaload, 1) := by decide +kernel
theorem dX1_rulesThatFit_41 : decode cX1_rulesThatFit 41 = .ok (.aload_n 0, 1) := by decide +kernel
theorem dX1_rulesThatFit_42 : decode cX1_rulesThatFit 42 = .ok (.getfield 22, 3) := by decide +kernel
theorem dX1_rulesThatFit_45 : decode cX1_rulesThatFit 45 = .ok (.getfield 30, 3) := by decide +kernel
theorem dX1_rulesThatFit_48 : decode cX1_rulesThatFit 48 = .ok (.getfield 52, 3) := by decide +kernel
theorem dX1_rulesThatFit_51 : decode cX1_rulesThatFit 51 = .ok (.invokevirtual 42, 3) := by decide +kernel
theorem dX1_rulesThatFit_54 : decode cX1_rulesThatFit 54 = .ok (.aload_n 0, 1) := by decide +kernel
theorem dX1_rulesThatFit_55 : decode cX1_rulesThatFit 55 = .ok (.invokevirtual 48, 3) := by decide +kernel
theorem dX1_rulesThatFit_58 : decode cX1_rulesThatFit 58 = .ok (.ifCond .eq 22, 3) := by decide +kernel
theorem dX1_rulesThatFit_61 : decode cX1_rulesThatFit 61 = .ok (.iinc 4 1, 3) := by decide +kernel
theorem dX1_rulesThatFit_64 : decode cX1_rulesThatFit 64 = .ok (.iload 5, 2) := by decide +kernel
theorem dX1_rulesThatFit_66 : decode cX1_rulesThatFit 66 = .ok (.bipush (-2), 2) := by decide +kernel
theorem dX1_rulesThatFit_68 : decode cX1_rulesThatFit 68 = .ok (.if_icmp .ne 8, 3) := by decide +kernel
theorem dX1_rulesThatFit_71 : decode cX1_rulesThatFit 71 = .ok (.iload 6, 2) := by decide +kernel
theorem dX1_rulesThatFit_73 : decode cX1_rulesThatFit 73 = .ok (.goto 5, 3) := by decide +kernel
theorem dX1_rulesThatFit_76 : decode cX1_rulesThatFit 76 = .ok (.iload 5, 2) := by decide +kernel
theorem dX1_rulesThatFit_78 : decode cX1_rulesThatFit 78 = .ok (.istore 5, 2) := by decide +kernel
theorem dX1_rulesThatFit_80 : decode cX1_rulesThatFit 80 = .ok (.iinc 6 1, 3) := by decide +kernel
theorem dX1_rulesThatFit_83 : decode cX1_rulesThatFit 83 = .ok (.goto (-73), 3) := by decide +kernel
theorem dX1_rulesThatFit_86 : decode cX1_rulesThatFit 86 = .ok (.iload_n 3, 1) := by decide +kernel
theorem dX1_rulesThatFit_87 : decode cX1_rulesThatFit 87 = .ok (.ifCond .ne 8, 3) := by decide +kernel
theorem dX1_rulesThatFit_90 : decode cX1_rulesThatFit 90 = .ok (.iload 4, 2) := by decide +kernel
theorem dX1_rulesThatFit_92 : decode cX1_rulesThatFit 92 = .ok (.goto 5, 3) := by decide +kernel
theorem dX1_rulesThatFit_95 : decode cX1_rulesThatFit 95 = .ok (.iload 5, 2) := by decide +kernel
theorem dX1_rulesThatFit_97 : decode cX1_rulesThatFit 97 = .ok (.ireturn, 1) := by decide +kernel
theorem dX1_bestLook_0 : decode cX1_bestLook 0 = .ok (.iconst 0, 1) := by decide +kernel
theorem dX1_bestLook_1 : decode cX1_bestLook 1 = .ok (.istore 5, 2) := by decide +kernel
theorem dX1_bestLook_3 : decode cX1_bestLook 3 = .ok (.iconst (-1), 1) := by decide +kernel
theorem dX1_bestLook_4 : decode cX1_bestLook 4 = .ok (.istore 6, 2) := by decide +kernel
theorem dX1_bestLook_6 : decode cX1_bestLook 6 = .ok (.iload 6, 2) := by decide +kernel
theorem dX1_bestLook_8 : decode cX1_bestLook 8 = .ok (.iload_n 2, 1) := by decide +kernel
theorem dX1_bestLook_9 : decode cX1_bestLook 9 = .ok (.if_icmp .ge 132, 3) := by decide +kernel
theorem dX1_bestLook_12 : decode cX1_bestLook 12 = .ok (.aload_n 0, 1) := by decide +kernel
theorem dX1_bestLook_13 : decode cX1_bestLook 13 = .ok (.getfield 26, 3) := by decide +kernel
theorem dX1_bestLook_16 : decode cX1_bestLook 16 = .ok (.aload_n 0, 1) := by decide +kernel
theorem dX1_bestLook_17 : decode cX1_bestLook 17 = .ok (.getfield 22, 3) := by decide +kernel
theorem dX1_bestLook_20 : decode cX1_bestLook 20 = .ok (.getfield 30, 3) := by decide +kernel
theorem dX1_bestLook_23 : decode cX1_bestLook 23 = .ok (.iload 6, 2) := by decide +kernel
theorem dX1_bestLook_25 : decode cX1_bestLook 25 = .ok (.iconst (-1), 1) := by decide +kernel
theorem dX1_bestLook_26 : decode cX1_bestLook 26 = .ok (.if_icmp .ne 7, 3) := by decide +kernel
theorem dX1_bestLook_29 : decode cX1_bestLook 29 = .ok (.aconst_null, 1) := by decide +kernel
theorem dX1_bestLook_30 : decode cX1_bestLook 30 = .ok (.goto 7, 3) := by decide +kernel
theorem dX1_bestLook_33 : decode cX1_bestLook 33 = .ok (.aload_n 1, 1) := by decide +kernel
theorem dX1_bestLook_34 : decode cX1_bestLook 34 = .ok (.iload 6, 2) := by decide +kernel
theorem dX1_bestLook_36 : decode cX1_bestLook 36 = .ok (.aaload, 1) := by decide +kernel
theorem dX1_bestLook_37 : decode cX1_bestLook 37 = .ok (.aload_n 0, 1) := by decide +kernel
theorem dX1_bestLook_38 : decode cX1_bestLook 38 = .ok (.getfield 22, 3) := by decide +kernel
theorem dX1_bestLook_41 : decode cX1_bestLook 41 = .ok (.getfield 30, 3) := by decide +kernel
theorem dX1_bestLook_44 : decode cX1_bestLook 44 = .ok (.getfield 52, 3) := by decide +kernel
theorem dX1_bestLook_47 : decode cX1_bestLook 47 = .ok (.invokevirtual 42, 3) := by decide +kernel
theorem dX1_bestLook_50 : decode cX1_bestLook 50 = .ok (.aload_n 0, 1) := by decide +kernel
theorem dX1_bestLook_51 : decode cX1_bestLook 51 = .ok (.invokevirtual 48, 3) := by decide +kernel
theorem dX1_bestLook_54 : decode cX1_bestLook 54 = .ok (.ifCond .eq 81, 3) := by decide +kernel
theorem dX1_bestLook_57 : decode cX1_bestLook 57 = .ok (.aload_n 0, 1) := by decide +kernel
theorem dX1_bestLook_58 : decode cX1_bestLook 58 = .ok (.getfield 12, 3) := by decide +kernel
theorem dX1_bestLook_61 : decode cX1_bestLook 61 = .ok (.aload_n 0, 1) := by decide +kernel
theorem dX1_bestLook_62 : decode cX1_bestLook 62 = .ok (.getfield 22, 3) := by decide +kernel
theorem dX1_bestLook_65 : decode cX1_bestLook 65 = .ok (.getfield 30, 3) := by decide +kernel
theorem dX1_bestLook_68 : decode cX1_bestLook 68 = .ok (.invokevirtual 55, 3) := by decide +kernel
theorem dX1_bestLook_71 : decode cX1_bestLook 71 = .ok (.aload_n 0, 1) := by decide +kernel
theorem dX1_bestLook_72 : decode cX1_bestLook 72 = .ok (.getfield 26, 3) := by decide +kernel
theorem dX1_bestLook_75 : decode cX1_bestLook 75 = .ok (.aload_n 0, 1) := by decide +kernel
theorem dX1_bestLook_76 : decode cX1_bestLook 76 = .ok (.getfield 12, 3) := by decide +kernel
theorem dX1_bestLook_79 : decode cX1_bestLook 79 = .ok (.iload_n 3, 1) := by decide +kernel
theorem dX1_bestLook_80 : decode cX1_bestLook 80 = .ok (.iconst 1, 1) := by decide +kernel
theorem dX1_bestLook_81 : decode cX1_bestLook 81 = .ok (.iadd, 1) := by decide +kernel
theorem dX1_bestLook_82 : decode cX1_bestLook 82 = .ok (.invokevirtual 59, 3) := by decide +kernel
theorem dX1_bestLook_85 : decode cX1_bestLook 85 = .ok (.iconst 0, 1) := by decide +kernel
theorem dX1_bestLook_86 : decode cX1_bestLook 86 = .ok (.istore 7, 2) := by decide +kernel
theorem dX1_bestLook_88 : decode cX1_bestLook 88 = .ok (.iload 7, 2) := by decide +kernel
theorem dX1_bestLook_90 : decode cX1_bestLook 90 = .ok (.aload_n 0, 1) := by decide +kernel
theorem dX1_bestLook_91 : decode cX1_bestLook 91 = .ok (.getfield 22, 3) := by decide +kernel
theorem dX1_bestLook_94 : decode cX1_bestLook 94 = .ok (.getfield 30, 3) := by decide +kernel
theorem dX1_bestLook_97 : decode cX1_bestLook 97 = .ok (.getfield 63, 3) := by decide +kernel
theorem dX1_bestLook_100 : decode cX1_bestLook 100 = .ok (.if_icmp .ge 32, 3) := by decide +kernel
theorem dX1_bestLook_103 : decode cX1_bestLook 103 = .ok (.aload_n 0, 1) := by decide +kernel
theorem dX1_bestLook_104 : decode cX1_bestLook 104 = .ok (.getfield 18, 3) := by decide +kernel
theorem dX1_bestLook_107 : decode cX1_bestLook 107 = .ok (.iload 7, 2) := by decide +kernel
theorem dX1_bestLook_109 : decode cX1_bestLook 109 = .ok (.bipush 7, 2) := by decide +kernel
theorem dX1_bestLook_111 : decode cX1_bestLook 111 = .ok (.imul, 1) := by decide +kernel
theorem dX1_bestLook_112 : decode cX1_bestLook 112 = .ok (.iload 5, 2) := by decide +kernel
theorem dX1_bestLook_114 : decode cX1_bestLook 114 = .ok (.iadd, 1) := by decide +kernel
theorem dX1_bestLook_115 : decode cX1_bestLook 115 = .ok (.aload_n 0, 1) := by decide +kernel
theorem dX1_bestLook_116 : decode cX1_bestLook 116 = .ok (.getfield 26, 3) := by decide +kernel
theorem dX1_bestLook_119 : decode cX1_bestLook 119 = .ok (.getfield 66, 3) := by decide +kernel
theorem dX1_bestLook_122 : decode cX1_bestLook 122 = .ok (.iload 7, 2) := by decide +kernel
theorem dX1_bestLook_124 : decode cX1_bestLook 124 = .ok (.iaload, 1) := by decide +kernel
theorem dX1_bestLook_125 : decode cX1_bestLook 125 = .ok (.iastore, 1) := by decide +kernel
theorem dX1_bestLook_126 : decode cX1_bestLook 126 = .ok (.iinc 7 1, 3) := by decide +kernel
theorem dX1_bestLook_129 : decode cX1_bestLook 129 = .ok (.goto (-41), 3) := by decide +kernel
theorem dX1_bestLook_132 : decode cX1_bestLook 132 = .ok (.iinc 5 1, 3) := by decide +kernel
theorem dX1_bestLook_135 : decode cX1_bestLook 135 = .ok (.iinc 6 1, 3) := by decide +kernel
theorem dX1_bestLook_138 : decode cX1_bestLook 138 = .ok (.goto (-132), 3) := by decide +kernel
theorem dX1_bestLook_141 : decode cX1_bestLook 141 = .ok (.bipush (-2), 2) := by decide +kernel
theorem dX1_bestLook_143 : decode cX1_bestLook 143 = .ok (.istore 6, 2) := by decide +kernel
theorem dX1_bestLook_145 : decode cX1_bestLook 145 = .ok (.bipush (-2), 2) := by decide +kernel
theorem dX1_bestLook_147 : decode cX1_bestLook 147 = .ok (.istore 7, 2) := by decide +kernel
theorem dX1_bestLook_149 : decode cX1_bestLook 149 = .ok (.iconst 0, 1) := by decide +kernel
theorem dX1_bestLook_150 : decode cX1_bestLook 150 = .ok (.istore 8, 2) := by decide +kernel
theorem dX1_bestLook_152 : decode cX1_bestLook 152 = .ok (.iload 5, 2) := by decide +kernel
theorem dX1_bestLook_154 : decode cX1_bestLook 154 = .ok (.ifCond .le 59, 3) := by decide +kernel
theorem dX1_bestLook_157 : decode cX1_bestLook 157 = .ok (.iload 8, 2) := by decide +kernel
theorem dX1_bestLook_159 : decode cX1_bestLook 159 = .ok (.aload_n 0, 1) := by decide +kernel
theorem dX1_bestLook_160 : decode cX1_bestLook 160 = .ok (.getfield 22, 3) := by decide +kernel
theorem dX1_bestLook_163 : decode cX1_bestLook 163 = .ok (.getfield 30, 3) := by decide +kernel
theorem dX1_bestLook_166 : decode cX1_bestLook 166 = .ok (.getfield 63, 3) := by decide +kernel
theorem dX1_bestLook_169 : decode cX1_bestLook 169 = .ok (.if_icmp .ge 44, 3) := by decide +kernel
theorem dX1_bestLook_172 : decode cX1_bestLook 172 = .ok (.aload_n 0, 1) := by decide +kernel
theorem dX1_bestLook_173 : decode cX1_bestLook 173 = .ok (.iload 8, 2) := by decide +kernel
theorem dX1_bestLook_175 : decode cX1_bestLook 175 = .ok (.bipush 7, 2) := by decide +kernel
theorem dX1_bestLook_177 : decode cX1_bestLook 177 = .ok (.imul, 1) := by decide +kernel
theorem dX1_bestLook_178 : decode cX1_bestLook 178 = .ok (.iload 5, 2) := by decide +kernel
theorem dX1_bestLook_180 : decode cX1_bestLook 180 = .ok (.invokevirtual 69, 3) := by decide +kernel
theorem dX1_bestLook_183 : decode cX1_bestLook 183 = .ok (.istore 9, 2) := by decide +kernel
theorem dX1_bestLook_185 : decode cX1_bestLook 185 = .ok (.iload 6, 2) := by decide +kernel
theorem dX1_bestLook_187 : decode cX1_bestLook 187 = .ok (.bipush (-2), 2) := by decide +kernel
theorem dX1_bestLook_189 : decode cX1_bestLook 189 = .ok (.if_icmp .eq 10, 3) := by decide +kernel
theorem dX1_bestLook_192 : decode cX1_bestLook 192 = .ok (.iload 9, 2) := by decide +kernel
theorem dX1_bestLook_194 : decode cX1_bestLook 194 = .ok (.iload 7, 2) := by decide +kernel
theorem dX1_bestLook_196 : decode cX1_bestLook 196 = .ok (.if_icmp .ge 11, 3) := by decide +kernel
theorem dX1_bestLook_199 : decode cX1_bestLook 199 = .ok (.iload 8, 2) := by decide +kernel
theorem dX1_bestLook_201 : decode cX1_bestLook 201 = .ok (.istore 6, 2) := by decide +kernel
theorem dX1_bestLook_203 : decode cX1_bestLook 203 = .ok (.iload 9, 2) := by decide +kernel
theorem dX1_bestLook_205 : decode cX1_bestLook 205 = .ok (.istore 7, 2) := by decide +kernel
theorem dX1_bestLook_207 : decode cX1_bestLook 207 = .ok (.iinc 8 1, 3) := by decide +kernel
theorem dX1_bestLook_210 : decode cX1_bestLook 210 = .ok (.goto (-58), 3) := by decide +kernel
theorem dX1_bestLook_213 : decode cX1_bestLook 213 = .ok (.iload 4, 2) := by decide +kernel
theorem dX1_bestLook_215 : decode cX1_bestLook 215 = .ok (.ifCond .ne 8, 3) := by decide +kernel
theorem dX1_bestLook_218 : decode cX1_bestLook 218 = .ok (.iload 6, 2) := by decide +kernel
theorem dX1_bestLook_220 : decode cX1_bestLook 220 = .ok (.goto 5, 3) := by decide +kernel
theorem dX1_bestLook_223 : decode cX1_bestLook 223 = .ok (.iload 7, 2) := by decide +kernel
theorem dX1_bestLook_225 : decode cX1_bestLook 225 = .ok (.ireturn, 1) := by decide +kernel
theorem dX1_mostAlike_0 : decode cX1_mostAlike 0 = .ok (.iconst 0, 1) := by decide +kernel
theorem dX1_mostAlike_1 : decode cX1_mostAlike 1 = .ok (.istore_n 3, 1) := by decide +kernel
theorem dX1_mostAlike_2 : decode cX1_mostAlike 2 = .ok (.iconst 0, 1) := by decide +kernel
theorem dX1_mostAlike_3 : decode cX1_mostAlike 3 = .ok (.istore 4, 2) := by decide +kernel
theorem dX1_mostAlike_5 : decode cX1_mostAlike 5 = .ok (.iload 4, 2) := by decide +kernel
theorem dX1_mostAlike_7 : decode cX1_mostAlike 7 = .ok (.iload_n 2, 1) := by decide +kernel
theorem dX1_mostAlike_8 : decode cX1_mostAlike 8 = .ok (.if_icmp .ge 65, 3) := by decide +kernel
theorem dX1_mostAlike_11 : decode cX1_mostAlike 11 = .ok (.iconst 0, 1) := by decide +kernel
theorem dX1_mostAlike_12 : decode cX1_mostAlike 12 = .ok (.istore 5, 2) := by decide +kernel
theorem dX1_mostAlike_14 : decode cX1_mostAlike 14 = .ok (.iconst 0, 1) := by decide +kernel
theorem dX1_mostAlike_15 : decode cX1_mostAlike 15 = .ok (.istore 6, 2) := by decide +kernel
theorem dX1_mostAlike_17 : decode cX1_mostAlike 17 = .ok (.iload 6, 2) := by decide +kernel
theorem dX1_mostAlike_19 : decode cX1_mostAlike 19 = .ok (.iload_n 2, 1) := by decide +kernel
theorem dX1_mostAlike_20 : decode cX1_mostAlike 20 = .ok (.if_icmp .ge 40, 3) := by decide +kernel
theorem dX1_mostAlike_23 : decode cX1_mostAlike 23 = .ok (.iload 5, 2) := by decide +kernel
theorem dX1_mostAlike_25 : decode cX1_mostAlike 25 = .ok (.aload_n 0, 1) := by decide +kernel
theorem dX1_mostAlike_26 : decode cX1_mostAlike 26 = .ok (.getfield 18, 3) := by decide +kernel
theorem dX1_mostAlike_29 : decode cX1_mostAlike 29 = .ok (.iload_n 1, 1) := by decide +kernel
theorem dX1_mostAlike_30 : decode cX1_mostAlike 30 = .ok (.iload 4, 2) := by decide +kernel
theorem dX1_mostAlike_32 : decode cX1_mostAlike 32 = .ok (.iadd, 1) := by decide +kernel
theorem dX1_mostAlike_33 : decode cX1_mostAlike 33 = .ok (.iaload, 1) := by decide +kernel
theorem dX1_mostAlike_34 : decode cX1_mostAlike 34 = .ok (.aload_n 0, 1) := by decide +kernel
theorem dX1_mostAlike_35 : decode cX1_mostAlike 35 = .ok (.getfield 18, 3) := by decide +kernel
theorem dX1_mostAlike_38 : decode cX1_mostAlike 38 = .ok (.iload_n 1, 1) := by decide +kernel
theorem dX1_mostAlike_39 : decode cX1_mostAlike 39 = .ok (.iload 6, 2) := by decide +kernel
theorem dX1_mostAlike_41 : decode cX1_mostAlike 41 = .ok (.iadd, 1) := by decide +kernel
theorem dX1_mostAlike_42 : decode cX1_mostAlike 42 = .ok (.iaload, 1) := by decide +kernel
theorem dX1_mostAlike_43 : decode cX1_mostAlike 43 = .ok (.if_icmp .ne 7, 3) := by decide +kernel
theorem dX1_mostAlike_46 : decode cX1_mostAlike 46 = .ok (.iconst 1, 1) := by decide +kernel
theorem dX1_mostAlike_47 : decode cX1_mostAlike 47 = .ok (.goto 4, 3) := by decide +kernel
theorem dX1_mostAlike_50 : decode cX1_mostAlike 50 = .ok (.iconst 0, 1) := by decide +kernel
theorem dX1_mostAlike_51 : decode cX1_mostAlike 51 = .ok (.iadd, 1) := by decide +kernel
theorem dX1_mostAlike_52 : decode cX1_mostAlike 52 = .ok (.istore 5, 2) := by decide +kernel
theorem dX1_mostAlike_54 : decode cX1_mostAlike 54 = .ok (.iinc 6 1, 3) := by decide +kernel
theorem dX1_mostAlike_57 : decode cX1_mostAlike 57 = .ok (.goto (-40), 3) := by decide +kernel
theorem dX1_mostAlike_60 : decode cX1_mostAlike 60 = .ok (.iload_n 3, 1) := by decide +kernel
theorem dX1_mostAlike_61 : decode cX1_mostAlike 61 = .ok (.iload 5, 2) := by decide +kernel
theorem dX1_mostAlike_63 : decode cX1_mostAlike 63 = .ok (.invokestatic 73, 3) := by decide +kernel
theorem dX1_mostAlike_66 : decode cX1_mostAlike 66 = .ok (.istore_n 3, 1) := by decide +kernel
theorem dX1_mostAlike_67 : decode cX1_mostAlike 67 = .ok (.iinc 4 1, 3) := by decide +kernel
theorem dX1_mostAlike_70 : decode cX1_mostAlike 70 = .ok (.goto (-65), 3) := by decide +kernel
theorem dX1_mostAlike_73 : decode cX1_mostAlike 73 = .ok (.iload_n 3, 1) := by decide +kernel
theorem dX1_mostAlike_74 : decode cX1_mostAlike 74 = .ok (.ireturn, 1) := by decide +kernel
theorem dX1_notesAreSo_0 : decode cX1_notesAreSo 0 = .ok (.iconst (-1), 1) := by decide +kernel
theorem dX1_notesAreSo_1 : decode cX1_notesAreSo 1 = .ok (.istore_n 1, 1) := by decide +kernel
theorem dX1_notesAreSo_2 : decode cX1_notesAreSo 2 = .ok (.iconst 0, 1) := by decide +kernel
theorem dX1_notesAreSo_3 : decode cX1_notesAreSo 3 = .ok (.istore_n 2, 1) := by decide +kernel
theorem dX1_notesAreSo_4 : decode cX1_notesAreSo 4 = .ok (.iload_n 2, 1) := by decide +kernel
theorem dX1_notesAreSo_5 : decode cX1_notesAreSo 5 = .ok (.aload_n 0, 1) := by decide +kernel
theorem dX1_notesAreSo_6 : decode cX1_notesAreSo 6 = .ok (.getfield 22, 3) := by decide +kernel
theorem dX1_notesAreSo_9 : decode cX1_notesAreSo 9 = .ok (.getfield 78, 3) := by decide +kernel
theorem dX1_notesAreSo_12 : decode cX1_notesAreSo 12 = .ok (.if_icmp .ge 23, 3) := by decide +kernel
theorem dX1_notesAreSo_15 : decode cX1_notesAreSo 15 = .ok (.iload_n 1, 1) := by decide +kernel
theorem dX1_notesAreSo_16 : decode cX1_notesAreSo 16 = .ok (.aload_n 0, 1) := by decide +kernel
theorem dX1_notesAreSo_17 : decode cX1_notesAreSo 17 = .ok (.getfield 22, 3) := by decide +kernel
theorem dX1_notesAreSo_20 : decode cX1_notesAreSo 20 = .ok (.getfield 81, 3) := by decide +kernel
theorem dX1_notesAreSo_23 : decode cX1_notesAreSo 23 = .ok (.iload_n 2, 1) := by decide +kernel
theorem dX1_notesAreSo_24 : decode cX1_notesAreSo 24 = .ok (.iaload, 1) := by decide +kernel
theorem dX1_notesAreSo_25 : decode cX1_notesAreSo 25 = .ok (.invokestatic 73, 3) := by decide +kernel
theorem dX1_notesAreSo_28 : decode cX1_notesAreSo 28 = .ok (.istore_n 1, 1) := by decide +kernel
theorem dX1_notesAreSo_29 : decode cX1_notesAreSo 29 = .ok (.iinc 2 1, 3) := by decide +kernel
theorem dX1_notesAreSo_32 : decode cX1_notesAreSo 32 = .ok (.goto (-28), 3) := by decide +kernel
theorem dX1_notesAreSo_35 : decode cX1_notesAreSo 35 = .ok (.aload_n 0, 1) := by decide +kernel
theorem dX1_notesAreSo_36 : decode cX1_notesAreSo 36 = .ok (.getfield 12, 3) := by decide +kernel
theorem dX1_notesAreSo_39 : decode cX1_notesAreSo 39 = .ok (.aload_n 0, 1) := by decide +kernel
theorem dX1_notesAreSo_40 : decode cX1_notesAreSo 40 = .ok (.getfield 22, 3) := by decide +kernel
theorem dX1_notesAreSo_43 : decode cX1_notesAreSo 43 = .ok (.getfield 30, 3) := by decide +kernel
theorem dX1_notesAreSo_46 : decode cX1_notesAreSo 46 = .ok (.invokevirtual 55, 3) := by decide +kernel
theorem dX1_notesAreSo_49 : decode cX1_notesAreSo 49 = .ok (.iconst 0, 1) := by decide +kernel
theorem dX1_notesAreSo_50 : decode cX1_notesAreSo 50 = .ok (.istore_n 2, 1) := by decide +kernel
theorem dX1_notesAreSo_51 : decode cX1_notesAreSo 51 = .ok (.iload_n 2, 1) := by decide +kernel
theorem dX1_notesAreSo_52 : decode cX1_notesAreSo 52 = .ok (.iload_n 1, 1) := by decide +kernel
theorem dX1_notesAreSo_53 : decode cX1_notesAreSo 53 = .ok (.if_icmp .gt 84, 3) := by decide +kernel
theorem dX1_notesAreSo_56 : decode cX1_notesAreSo 56 = .ok (.aload_n 0, 1) := by decide +kernel
theorem dX1_notesAreSo_57 : decode cX1_notesAreSo 57 = .ok (.getfield 26, 3) := by decide +kernel
theorem dX1_notesAreSo_60 : decode cX1_notesAreSo 60 = .ok (.aload_n 0, 1) := by decide +kernel
theorem dX1_notesAreSo_61 : decode cX1_notesAreSo 61 = .ok (.getfield 12, 3) := by decide +kernel
theorem dX1_notesAreSo_64 : decode cX1_notesAreSo 64 = .ok (.invokevirtual 84, 3) := by decide +kernel
theorem dX1_notesAreSo_67 : decode cX1_notesAreSo 67 = .ok (.pop, 1) := by decide +kernel
theorem dX1_notesAreSo_68 : decode cX1_notesAreSo 68 = .ok (.iconst 0, 1) := by decide +kernel
theorem dX1_notesAreSo_69 : decode cX1_notesAreSo 69 = .ok (.istore_n 3, 1) := by decide +kernel
theorem dX1_notesAreSo_70 : decode cX1_notesAreSo 70 = .ok (.iload_n 3, 1) := by decide +kernel
theorem dX1_notesAreSo_71 : decode cX1_notesAreSo 71 = .ok (.aload_n 0, 1) := by decide +kernel
theorem dX1_notesAreSo_72 : decode cX1_notesAreSo 72 = .ok (.getfield 22, 3) := by decide +kernel
theorem dX1_notesAreSo_75 : decode cX1_notesAreSo 75 = .ok (.getfield 78, 3) := by decide +kernel
theorem dX1_notesAreSo_78 : decode cX1_notesAreSo 78 = .ok (.if_icmp .ge 53, 3) := by decide +kernel
theorem dX1_notesAreSo_81 : decode cX1_notesAreSo 81 = .ok (.aload_n 0, 1) := by decide +kernel
theorem dX1_notesAreSo_82 : decode cX1_notesAreSo 82 = .ok (.getfield 22, 3) := by decide +kernel
theorem dX1_notesAreSo_85 : decode cX1_notesAreSo 85 = .ok (.getfield 81, 3) := by decide +kernel
theorem dX1_notesAreSo_88 : decode cX1_notesAreSo 88 = .ok (.iload_n 3, 1) := by decide +kernel
theorem dX1_notesAreSo_89 : decode cX1_notesAreSo 89 = .ok (.iaload, 1) := by decide +kernel
theorem dX1_notesAreSo_90 : decode cX1_notesAreSo 90 = .ok (.iload_n 2, 1) := by decide +kernel
theorem dX1_notesAreSo_91 : decode cX1_notesAreSo 91 = .ok (.if_icmp .ne 34, 3) := by decide +kernel
theorem dX1_notesAreSo_94 : decode cX1_notesAreSo 94 = .ok (.aload_n 0, 1) := by decide +kernel
theorem dX1_notesAreSo_95 : decode cX1_notesAreSo 95 = .ok (.getfield 26, 3) := by decide +kernel
theorem dX1_notesAreSo_98 : decode cX1_notesAreSo 98 = .ok (.getfield 66, 3) := by decide +kernel
theorem dX1_notesAreSo_101 : decode cX1_notesAreSo 101 = .ok (.aload_n 0, 1) := by decide +kernel
theorem dX1_notesAreSo_102 : decode cX1_notesAreSo 102 = .ok (.getfield 22, 3) := by decide +kernel
theorem dX1_notesAreSo_105 : decode cX1_notesAreSo 105 = .ok (.getfield 88, 3) := by decide +kernel
theorem dX1_notesAreSo_108 : decode cX1_notesAreSo 108 = .ok (.iload_n 3, 1) := by decide +kernel
theorem dX1_notesAreSo_109 : decode cX1_notesAreSo 109 = .ok (.iaload, 1) := by decide +kernel
theorem dX1_notesAreSo_110 : decode cX1_notesAreSo 110 = .ok (.iaload, 1) := by decide +kernel
theorem dX1_notesAreSo_111 : decode cX1_notesAreSo 111 = .ok (.aload_n 0, 1) := by decide +kernel
theorem dX1_notesAreSo_112 : decode cX1_notesAreSo 112 = .ok (.getfield 22, 3) := by decide +kernel
theorem dX1_notesAreSo_115 : decode cX1_notesAreSo 115 = .ok (.getfield 91, 3) := by decide +kernel
theorem dX1_notesAreSo_118 : decode cX1_notesAreSo 118 = .ok (.iload_n 3, 1) := by decide +kernel
theorem dX1_notesAreSo_119 : decode cX1_notesAreSo 119 = .ok (.iaload, 1) := by decide +kernel
theorem dX1_notesAreSo_120 : decode cX1_notesAreSo 120 = .ok (.if_icmp .eq 5, 3) := by decide +kernel
theorem dX1_notesAreSo_123 : decode cX1_notesAreSo 123 = .ok (.iconst 0, 1) := by decide +kernel
theorem dX1_notesAreSo_124 : decode cX1_notesAreSo 124 = .ok (.ireturn, 1) := by decide +kernel
theorem dX1_notesAreSo_125 : decode cX1_notesAreSo 125 = .ok (.iinc 3 1, 3) := by decide +kernel
theorem dX1_notesAreSo_128 : decode cX1_notesAreSo 128 = .ok (.goto (-58), 3) := by decide +kernel
theorem dX1_notesAreSo_131 : decode cX1_notesAreSo 131 = .ok (.iinc 2 1, 3) := by decide +kernel
theorem dX1_notesAreSo_134 : decode cX1_notesAreSo 134 = .ok (.goto (-83), 3) := by decide +kernel
theorem dX1_notesAreSo_137 : decode cX1_notesAreSo 137 = .ok (.iconst 1, 1) := by decide +kernel
theorem dX1_notesAreSo_138 : decode cX1_notesAreSo 138 = .ok (.ireturn, 1) := by decide +kernel
theorem dX2_init_0 : decode cX2_init 0 = .ok (.aload_n 0, 1) := by decide +kernel
theorem dX2_init_1 : decode cX2_init 1 = .ok (.invokespecial 3, 3) := by decide +kernel
theorem dX2_init_4 : decode cX2_init 4 = .ok (.aload_n 0, 1) := by decide +kernel
theorem dX2_init_5 : decode cX2_init 5 = .ok (.new 9, 3) := by decide +kernel
theorem dX2_init_8 : decode cX2_init 8 = .ok (.dup, 1) := by decide +kernel
theorem dX2_init_9 : decode cX2_init 9 = .ok (.invokespecial 11, 3) := by decide +kernel
theorem dX2_init_12 : decode cX2_init 12 = .ok (.putfield 12, 3) := by decide +kernel
theorem dX2_init_15 : decode cX2_init 15 = .ok (.aload_n 0, 1) := by decide +kernel
theorem dX2_init_16 : decode cX2_init 16 = .ok (.iconst 4, 1) := by decide +kernel
theorem dX2_init_17 : decode cX2_init 17 = .ok (.anewarray 9, 3) := by decide +kernel
theorem dX2_init_20 : decode cX2_init 20 = .ok (.putfield 18, 3) := by decide +kernel
theorem dX2_init_23 : decode cX2_init 23 = .ok (.aload_n 0, 1) := by decide +kernel
theorem dX2_init_24 : decode cX2_init 24 = .ok (.bipush 64, 2) := by decide +kernel
theorem dX2_init_26 : decode cX2_init 26 = .ok (.newarray .int, 2) := by decide +kernel
theorem dX2_init_28 : decode cX2_init 28 = .ok (.putfield 22, 3) := by decide +kernel
theorem dX2_init_31 : decode cX2_init 31 = .ok (.aload_n 0, 1) := by decide +kernel
theorem dX2_init_32 : decode cX2_init 32 = .ok (.bipush 64, 2) := by decide +kernel
theorem dX2_init_34 : decode cX2_init 34 = .ok (.newarray .int, 2) := by decide +kernel
theorem dX2_init_36 : decode cX2_init 36 = .ok (.putfield 26, 3) := by decide +kernel
theorem dX2_init_39 : decode cX2_init 39 = .ok (.aload_n 0, 1) := by decide +kernel
theorem dX2_init_40 : decode cX2_init 40 = .ok (.aload_n 1, 1) := by decide +kernel
theorem dX2_init_41 : decode cX2_init 41 = .ok (.putfield 29, 3) := by decide +kernel
theorem dX2_init_44 : decode cX2_init 44 = .ok (.aload_n 0, 1) := by decide +kernel
theorem dX2_init_45 : decode cX2_init 45 = .ok (.aload_n 2, 1) := by decide +kernel
theorem dX2_init_46 : decode cX2_init 46 = .ok (.putfield 33, 3) := by decide +kernel
theorem dX2_init_49 : decode cX2_init 49 = .ok (.iconst 0, 1) := by decide +kernel
theorem dX2_init_50 : decode cX2_init 50 = .ok (.istore_n 3, 1) := by decide +kernel
theorem dX2_init_51 : decode cX2_init 51 = .ok (.iload_n 3, 1) := by decide +kernel
theorem dX2_init_52 : decode cX2_init 52 = .ok (.iconst 3, 1) := by decide +kernel
theorem dX2_init_53 : decode cX2_init 53 = .ok (.if_icmp .gt 22, 3) := by decide +kernel
theorem dX2_init_56 : decode cX2_init 56 = .ok (.aload_n 0, 1) := by decide +kernel
theorem dX2_init_57 : decode cX2_init 57 = .ok (.getfield 18, 3) := by decide +kernel
theorem dX2_init_60 : decode cX2_init 60 = .ok (.iload_n 3, 1) := by decide +kernel
theorem dX2_init_61 : decode cX2_init 61 = .ok (.new 9, 3) := by decide +kernel
theorem dX2_init_64 : decode cX2_init 64 = .ok (.dup, 1) := by decide +kernel
theorem dX2_init_65 : decode cX2_init 65 = .ok (.invokespecial 11, 3) := by decide +kernel
theorem dX2_init_68 : decode cX2_init 68 = .ok (.aastore, 1) := by decide +kernel
theorem dX2_init_69 : decode cX2_init 69 = .ok (.iinc 3 1, 3) := by decide +kernel
theorem dX2_init_72 : decode cX2_init 72 = .ok (.goto (-21), 3) := by decide +kernel
theorem dX2_init_75 : decode cX2_init 75 = .ok (.return_, 1) := by decide +kernel
theorem dX2_after_0 : decode cX2_after 0 = .ok (.aload_n 0, 1) := by decide +kernel
theorem dX2_after_1 : decode cX2_after 1 = .ok (.getfield 12, 3) := by decide +kernel
theorem dX2_after_4 : decode cX2_after 4 = .ok (.aload_n 0, 1) := by decide +kernel
theorem dX2_after_5 : decode cX2_after 5 = .ok (.getfield 29, 3) := by decide +kernel
theorem dX2_after_8 : decode cX2_after 8 = .ok (.getfield 37, 3) := by decide +kernel
theorem dX2_after_11 : decode cX2_after 11 = .ok (.invokevirtual 42, 3) := by decide +kernel
theorem dX2_after_14 : decode cX2_after 14 = .ok (.aload_n 0, 1) := by decide +kernel
theorem dX2_after_15 : decode cX2_after 15 = .ok (.getfield 33, 3) := by decide +kernel
theorem dX2_after_18 : decode cX2_after 18 = .ok (.aload_n 0, 1) := by decide +kernel
theorem dX2_after_19 : decode cX2_after 19 = .ok (.getfield 12, 3) := by decide +kernel
theorem dX2_after_22 : decode cX2_after 22 = .ok (.iload_n 1, 1) := by decide +kernel
theorem dX2_after_23 : decode cX2_after 23 = .ok (.invokevirtual 46, 3) := by decide +kernel
theorem dX2_after_26 : decode cX2_after 26 = .ok (.aload_n 0, 1) := by decide +kernel
theorem dX2_after_27 : decode cX2_after 27 = .ok (.getfield 12, 3) := by decide +kernel
theorem dX2_after_30 : decode cX2_after 30 = .ok (.areturn, 1) := by decide +kernel
theorem dX2_firstChain_0 : decode cX2_firstChain 0 = .ok (.aload_n 0, 1) := by decide +kernel
theorem dX2_firstChain_1 : decode cX2_firstChain 1 = .ok (.getfield 12, 3) := by decide +kernel
theorem dX2_firstChain_4 : decode cX2_firstChain 4 = .ok (.aload_n 0, 1) := by decide +kernel
theorem dX2_firstChain_5 : decode cX2_firstChain 5 = .ok (.getfield 29, 3) := by decide +kernel
theorem dX2_firstChain_8 : decode cX2_firstChain 8 = .ok (.getfield 37, 3) := by decide +kernel
theorem dX2_firstChain_11 : decode cX2_firstChain 11 = .ok (.invokevirtual 42, 3) := by decide +kernel
theorem dX2_firstChain_14 : decode cX2_firstChain 14 = .ok (.iconst 0, 1) := by decide +kernel
theorem dX2_firstChain_15 : decode cX2_firstChain 15 = .ok (.istore_n 2, 1) := by decide +kernel
theorem dX2_firstChain_16 : decode cX2_firstChain 16 = .ok (.iload_n 2, 1) := by decide +kernel
theorem dX2_firstChain_17 : decode cX2_firstChain 17 = .ok (.bipush 100, 2) := by decide +kernel
theorem dX2_firstChain_19 : decode cX2_firstChain 19 = .ok (.if_icmp .ge 40, 3) := by decide +kernel
theorem dX2_firstChain_22 : decode cX2_firstChain 22 = .ok (.aload_n 0, 1) := by decide +kernel
theorem dX2_firstChain_23 : decode cX2_firstChain 23 = .ok (.getfield 12, 3) := by decide +kernel
theorem dX2_firstChain_26 : decode cX2_firstChain 26 = .ok (.getfield 52, 3) := by decide +kernel
theorem dX2_firstChain_29 : decode cX2_firstChain 29 = .ok (.iload_n 1, 1) := by decide +kernel
theorem dX2_firstChain_30 : decode cX2_firstChain 30 = .ok (.if_icmp .ne 11, 3) := by decide +kernel
theorem dX2_firstChain_33 : decode cX2_firstChain 33 = .ok (.aload_n 0, 1) := by decide +kernel
theorem dX2_firstChain_34 : decode cX2_firstChain 34 = .ok (.getfield 12, 3) := by decide +kernel
theorem dX2_firstChain_37 : decode cX2_firstChain 37 = .ok (.getfield 56, 3) := by decide +kernel
theorem dX2_firstChain_40 : decode cX2_firstChain 40 = .ok (.ireturn, 1) := by decide +kernel
theorem dX2_firstChain_41 : decode cX2_firstChain 41 = .ok (.aload_n 0, 1) := by decide +kernel
theorem dX2_firstChain_42 : decode cX2_firstChain 42 = .ok (.getfield 33, 3) := by decide +kernel
theorem dX2_firstChain_45 : decode cX2_firstChain 45 = .ok (.aload_n 0, 1) := by decide +kernel
theorem dX2_firstChain_46 : decode cX2_firstChain 46 = .ok (.getfield 12, 3) := by decide +kernel
theorem dX2_firstChain_49 : decode cX2_firstChain 49 = .ok (.invokevirtual 59, 3) := by decide +kernel
theorem dX2_firstChain_52 : decode cX2_firstChain 52 = .ok (.pop, 1) := by decide +kernel
theorem dX2_firstChain_53 : decode cX2_firstChain 53 = .ok (.iinc 2 1, 3) := by decide +kernel
theorem dX2_firstChain_56 : decode cX2_firstChain 56 = .ok (.goto (-40), 3) := by decide +kernel
theorem dX2_firstChain_59 : decode cX2_firstChain 59 = .ok (.bipush (-2), 2) := by decide +kernel
theorem dX2_firstChain_61 : decode cX2_firstChain 61 = .ok (.ireturn, 1) := by decide +kernel
theorem dX2_bestPitch_0 : decode cX2_bestPitch 0 = .ok (.iconst (-1), 1) := by decide +kernel
theorem dX2_bestPitch_1 : decode cX2_bestPitch 1 = .ok (.istore 4, 2) := by decide +kernel
theorem dX2_bestPitch_3 : decode cX2_bestPitch 3 = .ok (.iconst (-1), 1) := by decide +kernel
theorem dX2_bestPitch_4 : decode cX2_bestPitch 4 = .ok (.istore 5, 2) := by decide +kernel
theorem dX2_bestPitch_6 : decode cX2_bestPitch 6 = .ok (.iconst 0, 1) := by decide +kernel
theorem dX2_bestPitch_7 : decode cX2_bestPitch 7 = .ok (.istore 6, 2) := by decide +kernel
theorem dX2_bestPitch_9 : decode cX2_bestPitch 9 = .ok (.iload 6, 2) := by decide +kernel
theorem dX2_bestPitch_11 : decode cX2_bestPitch 11 = .ok (.aload_n 0, 1) := by decide +kernel
theorem dX2_bestPitch_12 : decode cX2_bestPitch 12 = .ok (.getfield 29, 3) := by decide +kernel
theorem dX2_bestPitch_15 : decode cX2_bestPitch 15 = .ok (.getfield 63, 3) := by decide +kernel
theorem dX2_bestPitch_18 : decode cX2_bestPitch 18 = .ok (.getfield 67, 3) := by decide +kernel
theorem dX2_bestPitch_21 : decode cX2_bestPitch 21 = .ok (.if_icmp .ge 85, 3) := by decide +kernel
theorem dX2_bestPitch_24 : decode cX2_bestPitch 24 = .ok (.aload_n 0, 1) := by decide +kernel
theorem dX2_bestPitch_25 : decode cX2_bestPitch 25 = .ok (.getfield 12, 3) := by decide +kernel
theorem dX2_bestPitch_28 : decode cX2_bestPitch 28 = .ok (.aload_n 0, 1) := by decide +kernel
theorem dX2_bestPitch_29 : decode cX2_bestPitch 29 = .ok (.getfield 29, 3) := by decide +kernel
theorem dX2_bestPitch_32 : decode cX2_bestPitch 32 = .ok (.getfield 37, 3) := by decide +kernel
theorem dX2_bestPitch_35 : decode cX2_bestPitch 35 = .ok (.invokevirtual 42, 3) := by decide +kernel
theorem dX2_bestPitch_38 : decode cX2_bestPitch 38 = .ok (.aload_n 0, 1) := by decide +kernel
theorem dX2_bestPitch_39 : decode cX2_bestPitch 39 = .ok (.getfield 12, 3) := by decide +kernel
theorem dX2_bestPitch_42 : decode cX2_bestPitch 42 = .ok (.getfield 72, 3) := by decide +kernel
theorem dX2_bestPitch_45 : decode cX2_bestPitch 45 = .ok (.iload_n 1, 1) := by decide +kernel
theorem dX2_bestPitch_46 : decode cX2_bestPitch 46 = .ok (.iload 6, 2) := by decide +kernel
theorem dX2_bestPitch_48 : decode cX2_bestPitch 48 = .ok (.iastore, 1) := by decide +kernel
theorem dX2_bestPitch_49 : decode cX2_bestPitch 49 = .ok (.aload_n 0, 1) := by decide +kernel
theorem dX2_bestPitch_50 : decode cX2_bestPitch 50 = .ok (.getfield 33, 3) := by decide +kernel
theorem dX2_bestPitch_53 : decode cX2_bestPitch 53 = .ok (.aload_n 0, 1) := by decide +kernel
theorem dX2_bestPitch_54 : decode cX2_bestPitch 54 = .ok (.getfield 12, 3) := by decide +kernel
theorem dX2_bestPitch_57 : decode cX2_bestPitch 57 = .ok (.iload_n 2, 1) := by decide +kernel
theorem dX2_bestPitch_58 : decode cX2_bestPitch 58 = .ok (.invokevirtual 46, 3) := by decide +kernel
theorem dX2_bestPitch_61 : decode cX2_bestPitch 61 = .ok (.aload_n 0, 1) := by decide +kernel
theorem dX2_bestPitch_62 : decode cX2_bestPitch 62 = .ok (.getfield 12, 3) := by decide +kernel
theorem dX2_bestPitch_65 : decode cX2_bestPitch 65 = .ok (.getfield 75, 3) := by decide +kernel
theorem dX2_bestPitch_68 : decode cX2_bestPitch 68 = .ok (.iload_n 1, 1) := by decide +kernel
theorem dX2_bestPitch_69 : decode cX2_bestPitch 69 = .ok (.iaload, 1) := by decide +kernel
theorem dX2_bestPitch_70 : decode cX2_bestPitch 70 = .ok (.aload_n 0, 1) := by decide +kernel
theorem dX2_bestPitch_71 : decode cX2_bestPitch 71 = .ok (.getfield 29, 3) := by decide +kernel
theorem dX2_bestPitch_74 : decode cX2_bestPitch 74 = .ok (.getfield 37, 3) := by decide +kernel
theorem dX2_bestPitch_77 : decode cX2_bestPitch 77 = .ok (.getfield 75, 3) := by decide +kernel
theorem dX2_bestPitch_80 : decode cX2_bestPitch 80 = .ok (.iload_n 1, 1) := by decide +kernel
theorem dX2_bestPitch_81 : decode cX2_bestPitch 81 = .ok (.iaload, 1) := by decide +kernel
theorem dX2_bestPitch_82 : decode cX2_bestPitch 82 = .ok (.isub, 1) := by decide +kernel
theorem dX2_bestPitch_83 : decode cX2_bestPitch 83 = .ok (.istore 7, 2) := by decide +kernel
theorem dX2_bestPitch_85 : decode cX2_bestPitch 85 = .ok (.iload 7, 2) := by decide +kernel
theorem dX2_bestPitch_87 : decode cX2_bestPitch 87 = .ok (.iload 5, 2) := by decide +kernel
theorem dX2_bestPitch_89 : decode cX2_bestPitch 89 = .ok (.if_icmp .le 11, 3) := by decide +kernel
theorem dX2_bestPitch_92 : decode cX2_bestPitch 92 = .ok (.iload 7, 2) := by decide +kernel
theorem dX2_bestPitch_94 : decode cX2_bestPitch 94 = .ok (.istore 5, 2) := by decide +kernel
theorem dX2_bestPitch_96 : decode cX2_bestPitch 96 = .ok (.iload 6, 2) := by decide +kernel
theorem dX2_bestPitch_98 : decode cX2_bestPitch 98 = .ok (.istore 4, 2) := by decide +kernel
theorem dX2_bestPitch_100 : decode cX2_bestPitch 100 = .ok (.iinc 6 1, 3) := by decide +kernel
theorem dX2_bestPitch_103 : decode cX2_bestPitch 103 = .ok (.goto (-94), 3) := by decide +kernel
theorem dX2_bestPitch_106 : decode cX2_bestPitch 106 = .ok (.iload_n 3, 1) := by decide +kernel
theorem dX2_bestPitch_107 : decode cX2_bestPitch 107 = .ok (.ifCond .ne 8, 3) := by decide +kernel
theorem dX2_bestPitch_110 : decode cX2_bestPitch 110 = .ok (.iload 4, 2) := by decide +kernel
theorem dX2_bestPitch_112 : decode cX2_bestPitch 112 = .ok (.goto 5, 3) := by decide +kernel
theorem dX2_bestPitch_115 : decode cX2_bestPitch 115 = .ok (.iload 5, 2) := by decide +kernel
theorem dX2_bestPitch_117 : decode cX2_bestPitch 117 = .ok (.ireturn, 1) := by decide +kernel
theorem dX2_leastSmile_0 : decode cX2_leastSmile 0 = .ok (.iconst 0, 1) := by decide +kernel
theorem dX2_leastSmile_1 : decode cX2_leastSmile 1 = .ok (.istore_n 3, 1) := by decide +kernel
theorem dX2_leastSmile_2 : decode cX2_leastSmile 2 = .ok (.iload_n 3, 1) := by decide +kernel
theorem dX2_leastSmile_3 : decode cX2_leastSmile 3 = .ok (.bipush 9, 2) := by decide +kernel
theorem dX2_leastSmile_5 : decode cX2_leastSmile 5 = .ok (.if_icmp .gt 58, 3) := by decide +kernel
theorem dX2_leastSmile_8 : decode cX2_leastSmile 8 = .ok (.aload_n 0, 1) := by decide +kernel
theorem dX2_leastSmile_9 : decode cX2_leastSmile 9 = .ok (.getfield 12, 3) := by decide +kernel
theorem dX2_leastSmile_12 : decode cX2_leastSmile 12 = .ok (.aload_n 0, 1) := by decide +kernel
theorem dX2_leastSmile_13 : decode cX2_leastSmile 13 = .ok (.getfield 29, 3) := by decide +kernel
theorem dX2_leastSmile_16 : decode cX2_leastSmile 16 = .ok (.getfield 37, 3) := by decide +kernel
theorem dX2_leastSmile_19 : decode cX2_leastSmile 19 = .ok (.invokevirtual 42, 3) := by decide +kernel
theorem dX2_leastSmile_22 : decode cX2_leastSmile 22 = .ok (.aload_n 0, 1) := by decide +kernel
theorem dX2_leastSmile_23 : decode cX2_leastSmile 23 = .ok (.getfield 12, 3) := by decide +kernel
theorem dX2_leastSmile_26 : decode cX2_leastSmile 26 = .ok (.getfield 78, 3) := by decide +kernel
theorem dX2_leastSmile_29 : decode cX2_leastSmile 29 = .ok (.iload_n 1, 1) := by decide +kernel
theorem dX2_leastSmile_30 : decode cX2_leastSmile 30 = .ok (.iload_n 3, 1) := by decide +kernel
theorem dX2_leastSmile_31 : decode cX2_leastSmile 31 = .ok (.iastore, 1) := by decide +kernel
theorem dX2_leastSmile_32 : decode cX2_leastSmile 32 = .ok (.aload_n 0, 1) := by decide +kernel
theorem dX2_leastSmile_33 : decode cX2_leastSmile 33 = .ok (.getfield 33, 3) := by decide +kernel
theorem dX2_leastSmile_36 : decode cX2_leastSmile 36 = .ok (.aload_n 0, 1) := by decide +kernel
theorem dX2_leastSmile_37 : decode cX2_leastSmile 37 = .ok (.getfield 12, 3) := by decide +kernel
theorem dX2_leastSmile_40 : decode cX2_leastSmile 40 = .ok (.iload_n 2, 1) := by decide +kernel
theorem dX2_leastSmile_41 : decode cX2_leastSmile 41 = .ok (.invokevirtual 46, 3) := by decide +kernel
theorem dX2_leastSmile_44 : decode cX2_leastSmile 44 = .ok (.aload_n 0, 1) := by decide +kernel
theorem dX2_leastSmile_45 : decode cX2_leastSmile 45 = .ok (.getfield 12, 3) := by decide +kernel
theorem dX2_leastSmile_48 : decode cX2_leastSmile 48 = .ok (.getfield 52, 3) := by decide +kernel
theorem dX2_leastSmile_51 : decode cX2_leastSmile 51 = .ok (.iload_n 1, 1) := by decide +kernel
theorem dX2_leastSmile_52 : decode cX2_leastSmile 52 = .ok (.if_icmp .ne 5, 3) := by decide +kernel
theorem dX2_leastSmile_55 : decode cX2_leastSmile 55 = .ok (.iload_n 3, 1) := by decide +kernel
theorem dX2_leastSmile_56 : decode cX2_leastSmile 56 = .ok (.ireturn, 1) := by decide +kernel
theorem dX2_leastSmile_57 : decode cX2_leastSmile 57 = .ok (.iinc 3 1, 3) := by decide +kernel
theorem dX2_leastSmile_60 : decode cX2_leastSmile 60 = .ok (.goto (-58), 3) := by decide +kernel
theorem dX2_leastSmile_63 : decode cX2_leastSmile 63 = .ok (.bipush (-2), 2) := by decide +kernel
theorem dX2_leastSmile_65 : decode cX2_leastSmile 65 = .ok (.ireturn, 1) := by decide +kernel
theorem dX2_cameFrom_0 : decode cX2_cameFrom 0 = .ok (.iconst 0, 1) := by decide +kernel
theorem dX2_cameFrom_1 : decode cX2_cameFrom 1 = .ok (.istore 5, 2) := by decide +kernel
theorem dX2_cameFrom_3 : decode cX2_cameFrom 3 = .ok (.bipush (-2), 2) := by decide +kernel
theorem dX2_cameFrom_5 : decode cX2_cameFrom 5 = .ok (.istore 6, 2) := by decide +kernel
theorem dX2_cameFrom_7 : decode cX2_cameFrom 7 = .ok (.iconst 0, 1) := by decide +kernel
theorem dX2_cameFrom_8 : decode cX2_cameFrom 8 = .ok (.istore 7, 2) := by decide +kernel
theorem dX2_cameFrom_10 : decode cX2_cameFrom 10 = .ok (.iload 7, 2) := by decide +kernel
theorem dX2_cameFrom_12 : decode cX2_cameFrom 12 = .ok (.aload_n 0, 1) := by decide +kernel
theorem dX2_cameFrom_13 : decode cX2_cameFrom 13 = .ok (.getfield 29, 3) := by decide +kernel
theorem dX2_cameFrom_16 : decode cX2_cameFrom 16 = .ok (.getfield 63, 3) := by decide +kernel
theorem dX2_cameFrom_19 : decode cX2_cameFrom 19 = .ok (.getfield 67, 3) := by decide +kernel
theorem dX2_cameFrom_22 : decode cX2_cameFrom 22 = .ok (.if_icmp .ge 78, 3) := by decide +kernel
theorem dX2_cameFrom_25 : decode cX2_cameFrom 25 = .ok (.aload_n 0, 1) := by decide +kernel
theorem dX2_cameFrom_26 : decode cX2_cameFrom 26 = .ok (.getfield 12, 3) := by decide +kernel
theorem dX2_cameFrom_29 : decode cX2_cameFrom 29 = .ok (.aload_n 0, 1) := by decide +kernel
theorem dX2_cameFrom_30 : decode cX2_cameFrom 30 = .ok (.getfield 29, 3) := by decide +kernel
theorem dX2_cameFrom_33 : decode cX2_cameFrom 33 = .ok (.getfield 37, 3) := by decide +kernel
theorem dX2_cameFrom_36 : decode cX2_cameFrom 36 = .ok (.invokevirtual 42, 3) := by decide +kernel
theorem dX2_cameFrom_39 : decode cX2_cameFrom 39 = .ok (.aload_n 0, 1) := by decide +kernel
theorem dX2_cameFrom_40 : decode cX2_cameFrom 40 = .ok (.getfield 12, 3) := by decide +kernel
theorem dX2_cameFrom_43 : decode cX2_cameFrom 43 = .ok (.getfield 81, 3) := by decide +kernel
theorem dX2_cameFrom_46 : decode cX2_cameFrom 46 = .ok (.iload_n 1, 1) := by decide +kernel
theorem dX2_cameFrom_47 : decode cX2_cameFrom 47 = .ok (.iload 7, 2) := by decide +kernel
theorem dX2_cameFrom_49 : decode cX2_cameFrom 49 = .ok (.iastore, 1) := by decide +kernel
theorem dX2_cameFrom_50 : decode cX2_cameFrom 50 = .ok (.aload_n 0, 1) := by decide +kernel
theorem dX2_cameFrom_51 : decode cX2_cameFrom 51 = .ok (.getfield 33, 3) := by decide +kernel
theorem dX2_cameFrom_54 : decode cX2_cameFrom 54 = .ok (.aload_n 0, 1) := by decide +kernel
theorem dX2_cameFrom_55 : decode cX2_cameFrom 55 = .ok (.getfield 12, 3) := by decide +kernel
theorem dX2_cameFrom_58 : decode cX2_cameFrom 58 = .ok (.iload_n 2, 1) := by decide +kernel
theorem dX2_cameFrom_59 : decode cX2_cameFrom 59 = .ok (.invokevirtual 46, 3) := by decide +kernel
theorem dX2_cameFrom_62 : decode cX2_cameFrom 62 = .ok (.aload_n 0, 1) := by decide +kernel
theorem dX2_cameFrom_63 : decode cX2_cameFrom 63 = .ok (.getfield 12, 3) := by decide +kernel
theorem dX2_cameFrom_66 : decode cX2_cameFrom 66 = .ok (.getfield 81, 3) := by decide +kernel
theorem dX2_cameFrom_69 : decode cX2_cameFrom 69 = .ok (.iload_n 1, 1) := by decide +kernel
theorem dX2_cameFrom_70 : decode cX2_cameFrom 70 = .ok (.iaload, 1) := by decide +kernel
theorem dX2_cameFrom_71 : decode cX2_cameFrom 71 = .ok (.iload_n 3, 1) := by decide +kernel
theorem dX2_cameFrom_72 : decode cX2_cameFrom 72 = .ok (.if_icmp .ne 22, 3) := by decide +kernel
theorem dX2_cameFrom_75 : decode cX2_cameFrom 75 = .ok (.iinc 5 1, 3) := by decide +kernel
theorem dX2_cameFrom_78 : decode cX2_cameFrom 78 = .ok (.iload 6, 2) := by decide +kernel
theorem dX2_cameFrom_80 : decode cX2_cameFrom 80 = .ok (.bipush (-2), 2) := by decide +kernel
theorem dX2_cameFrom_82 : decode cX2_cameFrom 82 = .ok (.if_icmp .ne 8, 3) := by decide +kernel
theorem dX2_cameFrom_85 : decode cX2_cameFrom 85 = .ok (.iload 7, 2) := by decide +kernel
theorem dX2_cameFrom_87 : decode cX2_cameFrom 87 = .ok (.goto 5, 3) := by decide +kernel
theorem dX2_cameFrom_90 : decode cX2_cameFrom 90 = .ok (.iload 6, 2) := by decide +kernel
theorem dX2_cameFrom_92 : decode cX2_cameFrom 92 = .ok (.istore 6, 2) := by decide +kernel
theorem dX2_cameFrom_94 : decode cX2_cameFrom 94 = .ok (.iinc 7 1, 3) := by decide +kernel
theorem dX2_cameFrom_97 : decode cX2_cameFrom 97 = .ok (.goto (-87), 3) := by decide +kernel
theorem dX2_cameFrom_100 : decode cX2_cameFrom 100 = .ok (.iload 4, 2) := by decide +kernel
theorem dX2_cameFrom_102 : decode cX2_cameFrom 102 = .ok (.ifCond .ne 8, 3) := by decide +kernel
theorem dX2_cameFrom_105 : decode cX2_cameFrom 105 = .ok (.iload 5, 2) := by decide +kernel
theorem dX2_cameFrom_107 : decode cX2_cameFrom 107 = .ok (.goto 5, 3) := by decide +kernel
theorem dX2_cameFrom_110 : decode cX2_cameFrom 110 = .ok (.iload 6, 2) := by decide +kernel
theorem dX2_cameFrom_112 : decode cX2_cameFrom 112 = .ok (.ireturn, 1) := by decide +kernel
theorem dX2_bestShut_0 : decode cX2_bestShut 0 = .ok (.aload_n 0, 1) := by decide +kernel
theorem dX2_bestShut_1 : decode cX2_bestShut 1 = .ok (.aload_n 0, 1) := by decide +kernel
theorem dX2_bestShut_2 : decode cX2_bestShut 2 = .ok (.getfield 29, 3) := by decide +kernel
theorem dX2_bestShut_5 : decode cX2_bestShut 5 = .ok (.getfield 37, 3) := by decide +kernel
theorem dX2_bestShut_8 : decode cX2_bestShut 8 = .ok (.getfield 84, 3) := by decide +kernel
theorem dX2_bestShut_11 : decode cX2_bestShut 11 = .ok (.iload_n 1, 1) := by decide +kernel
theorem dX2_bestShut_12 : decode cX2_bestShut 12 = .ok (.invokevirtual 88, 3) := by decide +kernel
theorem dX2_bestShut_15 : decode cX2_bestShut 15 = .ok (.istore_n 3, 1) := by decide +kernel
theorem dX2_bestShut_16 : decode cX2_bestShut 16 = .ok (.iconst (-1), 1) := by decide +kernel
theorem dX2_bestShut_17 : decode cX2_bestShut 17 = .ok (.istore 4, 2) := by decide +kernel
theorem dX2_bestShut_19 : decode cX2_bestShut 19 = .ok (.iconst (-1), 1) := by decide +kernel
theorem dX2_bestShut_20 : decode cX2_bestShut 20 = .ok (.istore 5, 2) := by decide +kernel
theorem dX2_bestShut_22 : decode cX2_bestShut 22 = .ok (.iconst 0, 1) := by decide +kernel
theorem dX2_bestShut_23 : decode cX2_bestShut 23 = .ok (.istore 6, 2) := by decide +kernel
theorem dX2_bestShut_25 : decode cX2_bestShut 25 = .ok (.iload 6, 2) := by decide +kernel
theorem dX2_bestShut_27 : decode cX2_bestShut 27 = .ok (.aload_n 0, 1) := by decide +kernel
theorem dX2_bestShut_28 : decode cX2_bestShut 28 = .ok (.getfield 29, 3) := by decide +kernel
theorem dX2_bestShut_31 : decode cX2_bestShut 31 = .ok (.getfield 63, 3) := by decide +kernel
theorem dX2_bestShut_34 : decode cX2_bestShut 34 = .ok (.getfield 67, 3) := by decide +kernel
theorem dX2_bestShut_37 : decode cX2_bestShut 37 = .ok (.if_icmp .ge 104, 3) := by decide +kernel
theorem dX2_bestShut_40 : decode cX2_bestShut 40 = .ok (.iload 6, 2) := by decide +kernel
theorem dX2_bestShut_42 : decode cX2_bestShut 42 = .ok (.iconst 1, 1) := by decide +kernel
theorem dX2_bestShut_43 : decode cX2_bestShut 43 = .ok (.iadd, 1) := by decide +kernel
theorem dX2_bestShut_44 : decode cX2_bestShut 44 = .ok (.istore 7, 2) := by decide +kernel
theorem dX2_bestShut_46 : decode cX2_bestShut 46 = .ok (.iload 7, 2) := by decide +kernel
theorem dX2_bestShut_48 : decode cX2_bestShut 48 = .ok (.aload_n 0, 1) := by decide +kernel
theorem dX2_bestShut_49 : decode cX2_bestShut 49 = .ok (.getfield 29, 3) := by decide +kernel
theorem dX2_bestShut_52 : decode cX2_bestShut 52 = .ok (.getfield 63, 3) := by decide +kernel
theorem dX2_bestShut_55 : decode cX2_bestShut 55 = .ok (.getfield 67, 3) := by decide +kernel
theorem dX2_bestShut_58 : decode cX2_bestShut 58 = .ok (.if_icmp .ge 77, 3) := by decide +kernel
theorem dX2_bestShut_61 : decode cX2_bestShut 61 = .ok (.iload 6, 2) := by decide +kernel
theorem dX2_bestShut_63 : decode cX2_bestShut 63 = .ok (.iload 7, 2) := by decide +kernel
theorem dX2_bestShut_65 : decode cX2_bestShut 65 = .ok (.invokestatic 92, 3) := by decide +kernel
theorem dX2_bestShut_68 : decode cX2_bestShut 68 = .ok (.lstore 8, 2) := by decide +kernel
theorem dX2_bestShut_70 : decode cX2_bestShut 70 = .ok (.aload_n 0, 1) := by decide +kernel
theorem dX2_bestShut_71 : decode cX2_bestShut 71 = .ok (.getfield 29, 3) := by decide +kernel
theorem dX2_bestShut_74 : decode cX2_bestShut 74 = .ok (.getfield 37, 3) := by decide +kernel
theorem dX2_bestShut_77 : decode cX2_bestShut 77 = .ok (.getfield 84, 3) := by decide +kernel
theorem dX2_bestShut_80 : decode cX2_bestShut 80 = .ok (.lload 8, 2) := by decide +kernel
theorem dX2_bestShut_82 : decode cX2_bestShut 82 = .ok (.land, 1) := by decide +kernel
theorem dX2_bestShut_83 : decode cX2_bestShut 83 = .ok (.lconst 0, 1) := by decide +kernel
theorem dX2_bestShut_84 : decode cX2_bestShut 84 = .ok (.lcmp, 1) := by decide +kernel
theorem dX2_bestShut_85 : decode cX2_bestShut 85 = .ok (.ifCond .eq 44, 3) := by decide +kernel
theorem dX2_bestShut_88 : decode cX2_bestShut 88 = .ok (.aload_n 0, 1) := by decide +kernel
theorem dX2_bestShut_89 : decode cX2_bestShut 89 = .ok (.aload_n 0, 1) := by decide +kernel
theorem dX2_bestShut_90 : decode cX2_bestShut 90 = .ok (.getfield 29, 3) := by decide +kernel
theorem dX2_bestShut_93 : decode cX2_bestShut 93 = .ok (.getfield 37, 3) := by decide +kernel
theorem dX2_bestShut_96 : decode cX2_bestShut 96 = .ok (.getfield 84, 3) := by decide +kernel
theorem dX2_bestShut_99 : decode cX2_bestShut 99 = .ok (.lload 8, 2) := by decide +kernel
theorem dX2_bestShut_101 : decode cX2_bestShut 101 = .ok (.ldc2_w 98, 3) := by decide +kernel
theorem dX2_bestShut_104 : decode cX2_bestShut 104 = .ok (.lxor, 1) := by decide +kernel
theorem dX2_bestShut_105 : decode cX2_bestShut 105 = .ok (.land, 1) := by decide +kernel
theorem dX2_bestShut_106 : decode cX2_bestShut 106 = .ok (.iload_n 1, 1) := by decide +kernel
theorem dX2_bestShut_107 : decode cX2_bestShut 107 = .ok (.invokevirtual 88, 3) := by decide +kernel
theorem dX2_bestShut_110 : decode cX2_bestShut 110 = .ok (.istore 10, 2) := by decide +kernel
theorem dX2_bestShut_112 : decode cX2_bestShut 112 = .ok (.iload 10, 2) := by decide +kernel
theorem dX2_bestShut_114 : decode cX2_bestShut 114 = .ok (.iload_n 3, 1) := by decide +kernel
theorem dX2_bestShut_115 : decode cX2_bestShut 115 = .ok (.if_icmp .le 14, 3) := by decide +kernel
theorem dX2_bestShut_118 : decode cX2_bestShut 118 = .ok (.iload 10, 2) := by decide +kernel
theorem dX2_bestShut_120 : decode cX2_bestShut 120 = .ok (.istore_n 3, 1) := by decide +kernel
theorem dX2_bestShut_121 : decode cX2_bestShut 121 = .ok (.iload 6, 2) := by decide +kernel
theorem dX2_bestShut_123 : decode cX2_bestShut 123 = .ok (.istore 4, 2) := by decide +kernel
theorem dX2_bestShut_125 : decode cX2_bestShut 125 = .ok (.iload 7, 2) := by decide +kernel
theorem dX2_bestShut_127 : decode cX2_bestShut 127 = .ok (.istore 5, 2) := by decide +kernel
theorem dX2_bestShut_129 : decode cX2_bestShut 129 = .ok (.iinc 7 1, 3) := by decide +kernel
theorem dX2_bestShut_132 : decode cX2_bestShut 132 = .ok (.goto (-86), 3) := by decide +kernel
theorem dX2_bestShut_135 : decode cX2_bestShut 135 = .ok (.iinc 6 1, 3) := by decide +kernel
theorem dX2_bestShut_138 : decode cX2_bestShut 138 = .ok (.goto (-113), 3) := by decide +kernel
theorem dX2_bestShut_141 : decode cX2_bestShut 141 = .ok (.iload_n 2, 1) := by decide +kernel
theorem dX2_bestShut_142 : decode cX2_bestShut 142 = .ok (.ifCond .ne 5, 3) := by decide +kernel
theorem dX2_bestShut_145 : decode cX2_bestShut 145 = .ok (.iload_n 3, 1) := by decide +kernel
theorem dX2_bestShut_146 : decode cX2_bestShut 146 = .ok (.ireturn, 1) := by decide +kernel
theorem dX2_bestShut_147 : decode cX2_bestShut 147 = .ok (.iload_n 2, 1) := by decide +kernel
theorem dX2_bestShut_148 : decode cX2_bestShut 148 = .ok (.iconst 1, 1) := by decide +kernel
theorem dX2_bestShut_149 : decode cX2_bestShut 149 = .ok (.if_icmp .ne 8, 3) := by decide +kernel
theorem dX2_bestShut_152 : decode cX2_bestShut 152 = .ok (.iload 4, 2) := by decide +kernel
theorem dX2_bestShut_154 : decode cX2_bestShut 154 = .ok (.goto 5, 3) := by decide +kernel
theorem dX2_bestShut_157 : decode cX2_bestShut 157 = .ok (.iload 5, 2) := by decide +kernel
theorem dX2_bestShut_159 : decode cX2_bestShut 159 = .ok (.ireturn, 1) := by decide +kernel
theorem dX2_comeBy_0 : decode cX2_comeBy 0 = .ok (.aload_n 0, 1) := by decide +kernel
theorem dX2_comeBy_1 : decode cX2_comeBy 1 = .ok (.getfield 12, 3) := by decide +kernel
theorem dX2_comeBy_4 : decode cX2_comeBy 4 = .ok (.aload_n 0, 1) := by decide +kernel
theorem dX2_comeBy_5 : decode cX2_comeBy 5 = .ok (.getfield 29, 3) := by decide +kernel
theorem dX2_comeBy_8 : decode cX2_comeBy 8 = .ok (.getfield 37, 3) := by decide +kernel
theorem dX2_comeBy_11 : decode cX2_comeBy 11 = .ok (.invokevirtual 42, 3) := by decide +kernel
theorem dX2_comeBy_14 : decode cX2_comeBy 14 = .ok (.aload_n 0, 1) := by decide +kernel
theorem dX2_comeBy_15 : decode cX2_comeBy 15 = .ok (.getfield 12, 3) := by decide +kernel
theorem dX2_comeBy_18 : decode cX2_comeBy 18 = .ok (.lload_n 1, 1) := by decide +kernel
theorem dX2_comeBy_19 : decode cX2_comeBy 19 = .ok (.putfield 84, 3) := by decide +kernel
theorem dX2_comeBy_22 : decode cX2_comeBy 22 = .ok (.aload_n 0, 1) := by decide +kernel
theorem dX2_comeBy_23 : decode cX2_comeBy 23 = .ok (.getfield 33, 3) := by decide +kernel
theorem dX2_comeBy_26 : decode cX2_comeBy 26 = .ok (.aload_n 0, 1) := by decide +kernel
theorem dX2_comeBy_27 : decode cX2_comeBy 27 = .ok (.getfield 12, 3) := by decide +kernel
theorem dX2_comeBy_30 : decode cX2_comeBy 30 = .ok (.iload_n 3, 1) := by decide +kernel
theorem dX2_comeBy_31 : decode cX2_comeBy 31 = .ok (.invokevirtual 46, 3) := by decide +kernel
theorem dX2_comeBy_34 : decode cX2_comeBy 34 = .ok (.aload_n 0, 1) := by decide +kernel
theorem dX2_comeBy_35 : decode cX2_comeBy 35 = .ok (.getfield 12, 3) := by decide +kernel
theorem dX2_comeBy_38 : decode cX2_comeBy 38 = .ok (.getfield 100, 3) := by decide +kernel
theorem dX2_comeBy_41 : decode cX2_comeBy 41 = .ok (.aload_n 0, 1) := by decide +kernel
theorem dX2_comeBy_42 : decode cX2_comeBy 42 = .ok (.getfield 29, 3) := by decide +kernel
theorem dX2_comeBy_45 : decode cX2_comeBy 45 = .ok (.getfield 37, 3) := by decide +kernel
theorem dX2_comeBy_48 : decode cX2_comeBy 48 = .ok (.getfield 100, 3) := by decide +kernel
theorem dX2_comeBy_51 : decode cX2_comeBy 51 = .ok (.isub, 1) := by decide +kernel
theorem dX2_comeBy_52 : decode cX2_comeBy 52 = .ok (.ireturn, 1) := by decide +kernel
theorem dX2_duel_0 : decode cX2_duel 0 = .ok (.aload_n 0, 1) := by decide +kernel
theorem dX2_duel_1 : decode cX2_duel 1 = .ok (.iload_n 1, 1) := by decide +kernel
theorem dX2_duel_2 : decode cX2_duel 2 = .ok (.putfield 103, 3) := by decide +kernel
theorem dX2_duel_5 : decode cX2_duel 5 = .ok (.aload_n 0, 1) := by decide +kernel
theorem dX2_duel_6 : decode cX2_duel 6 = .ok (.iload_n 2, 1) := by decide +kernel
theorem dX2_duel_7 : decode cX2_duel 7 = .ok (.putfield 106, 3) := by decide +kernel
theorem dX2_duel_10 : decode cX2_duel 10 = .ok (.aload_n 0, 1) := by decide +kernel
theorem dX2_duel_11 : decode cX2_duel 11 = .ok (.iload_n 3, 1) := by decide +kernel
theorem dX2_duel_12 : decode cX2_duel 12 = .ok (.putfield 109, 3) := by decide +kernel
theorem dX2_duel_15 : decode cX2_duel 15 = .ok (.aload_n 0, 1) := by decide +kernel
theorem dX2_duel_16 : decode cX2_duel 16 = .ok (.iconst (-1), 1) := by decide +kernel
theorem dX2_duel_17 : decode cX2_duel 17 = .ok (.putfield 112, 3) := by decide +kernel
theorem dX2_duel_20 : decode cX2_duel 20 = .ok (.aload_n 0, 1) := by decide +kernel
theorem dX2_duel_21 : decode cX2_duel 21 = .ok (.getfield 18, 3) := by decide +kernel
theorem dX2_duel_24 : decode cX2_duel 24 = .ok (.iconst 0, 1) := by decide +kernel
theorem dX2_duel_25 : decode cX2_duel 25 = .ok (.aaload, 1) := by decide +kernel
theorem dX2_duel_26 : decode cX2_duel 26 = .ok (.aload_n 0, 1) := by decide +kernel
theorem dX2_duel_27 : decode cX2_duel 27 = .ok (.getfield 29, 3) := by decide +kernel
theorem dX2_duel_30 : decode cX2_duel 30 = .ok (.getfield 37, 3) := by decide +kernel
theorem dX2_duel_33 : decode cX2_duel 33 = .ok (.invokevirtual 42, 3) := by decide +kernel
theorem dX2_duel_36 : decode cX2_duel 36 = .ok (.aload_n 0, 1) := by decide +kernel
theorem dX2_duel_37 : decode cX2_duel 37 = .ok (.iconst 0, 1) := by decide +kernel
theorem dX2_duel_38 : decode cX2_duel 38 = .ok (.invokevirtual 115, 3) := by decide +kernel
theorem dX2_duel_41 : decode cX2_duel 41 = .ok (.istore 5, 2) := by decide +kernel
theorem dX2_duel_43 : decode cX2_duel 43 = .ok (.iload 4, 2) := by decide +kernel
theorem dX2_duel_45 : decode cX2_duel 45 = .ok (.ifCond .ne 8, 3) := by decide +kernel
theorem dX2_duel_48 : decode cX2_duel 48 = .ok (.iload 5, 2) := by decide +kernel
theorem dX2_duel_50 : decode cX2_duel 50 = .ok (.goto 7, 3) := by decide +kernel
theorem dX2_duel_53 : decode cX2_duel 53 = .ok (.aload_n 0, 1) := by decide +kernel
theorem dX2_duel_54 : decode cX2_duel 54 = .ok (.getfield 112, 3) := by decide +kernel
theorem dX2_duel_57 : decode cX2_duel 57 = .ok (.ireturn, 1) := by decide +kernel
theorem dX2_play_0 : decode cX2_play 0 = .ok (.aload_n 0, 1) := by decide +kernel
theorem dX2_play_1 : decode cX2_play 1 = .ok (.getfield 18, 3) := by decide +kernel
theorem dX2_play_4 : decode cX2_play 4 = .ok (.iload_n 1, 1) := by decide +kernel
theorem dX2_play_5 : decode cX2_play 5 = .ok (.aaload, 1) := by decide +kernel
theorem dX2_play_6 : decode cX2_play 6 = .ok (.astore_n 2, 1) := by decide +kernel
theorem dX2_play_7 : decode cX2_play 7 = .ok (.iload_n 1, 1) := by decide +kernel
theorem dX2_play_8 : decode cX2_play 8 = .ok (.aload_n 0, 1) := by decide +kernel
theorem dX2_play_9 : decode cX2_play 9 = .ok (.getfield 109, 3) := by decide +kernel
theorem dX2_play_12 : decode cX2_play 12 = .ok (.if_icmp .ge 8, 3) := by decide +kernel
theorem dX2_play_15 : decode cX2_play 15 = .ok (.iload_n 1, 1) := by decide +kernel
theorem dX2_play_16 : decode cX2_play 16 = .ok (.iconst 3, 1) := by decide +kernel
theorem dX2_play_17 : decode cX2_play 17 = .ok (.if_icmp .lt 21, 3) := by decide +kernel
theorem dX2_play_20 : decode cX2_play 20 = .ok (.aload_n 0, 1) := by decide +kernel
theorem dX2_play_21 : decode cX2_play 21 = .ok (.aload_n 2, 1) := by decide +kernel
theorem dX2_play_22 : decode cX2_play 22 = .ok (.invokevirtual 119, 3) := by decide +kernel
theorem dX2_play_25 : decode cX2_play 25 = .ok (.aload_n 0, 1) := by decide +kernel
theorem dX2_play_26 : decode cX2_play 26 = .ok (.aload_n 0, 1) := by decide +kernel
theorem dX2_play_27 : decode cX2_play 27 = .ok (.getfield 29, 3) := by decide +kernel
theorem dX2_play_30 : decode cX2_play 30 = .ok (.getfield 37, 3) := by decide +kernel
theorem dX2_play_33 : decode cX2_play 33 = .ok (.invokevirtual 119, 3) := by decide +kernel
theorem dX2_play_36 : decode cX2_play 36 = .ok (.isub, 1) := by decide +kernel
theorem dX2_play_37 : decode cX2_play 37 = .ok (.ireturn, 1) := by decide +kernel
theorem dX2_play_38 : decode cX2_play 38 = .ok (.iload_n 1, 1) := by decide +kernel
theorem dX2_play_39 : decode cX2_play 39 = .ok (.iconst 2, 1) := by decide +kernel
theorem dX2_play_40 : decode cX2_play 40 = .ok (.irem, 1) := by decide +kernel
theorem dX2_play_41 : decode cX2_play 41 = .ok (.ifCond .ne 7, 3) := by decide +kernel
theorem dX2_play_44 : decode cX2_play 44 = .ok (.iconst 1, 1) := by decide +kernel
theorem dX2_play_45 : decode cX2_play 45 = .ok (.goto 4, 3) := by decide +kernel
theorem dX2_play_48 : decode cX2_play 48 = .ok (.iconst 0, 1) := by decide +kernel
theorem dX2_play_49 : decode cX2_play 49 = .ok (.istore_n 3, 1) := by decide +kernel
theorem dX2_play_50 : decode cX2_play 50 = .ok (.iload_n 3, 1) := by decide +kernel
theorem dX2_play_51 : decode cX2_play 51 = .ok (.ifCond .eq 10, 3) := by decide +kernel
theorem dX2_play_54 : decode cX2_play 54 = .ok (.aload_n 0, 1) := by decide +kernel
theorem dX2_play_55 : decode cX2_play 55 = .ok (.getfield 103, 3) := by decide +kernel
theorem dX2_play_58 : decode cX2_play 58 = .ok (.goto 7, 3) := by decide +kernel
theorem dX2_play_61 : decode cX2_play 61 = .ok (.aload_n 0, 1) := by decide +kernel
theorem dX2_play_62 : decode cX2_play 62 = .ok (.getfield 106, 3) := by decide +kernel
theorem dX2_play_65 : decode cX2_play 65 = .ok (.istore 4, 2) := by decide +kernel
theorem dX2_play_67 : decode cX2_play 67 = .ok (.aload_n 2, 1) := by decide +kernel
theorem dX2_play_68 : decode cX2_play 68 = .ok (.getfield 84, 3) := by decide +kernel
theorem dX2_play_71 : decode cX2_play 71 = .ok (.aload_n 2, 1) := by decide +kernel
theorem dX2_play_72 : decode cX2_play 72 = .ok (.getfield 72, 3) := by decide +kernel
theorem dX2_play_75 : decode cX2_play 75 = .ok (.iload 4, 2) := by decide +kernel
theorem dX2_play_77 : decode cX2_play 77 = .ok (.iaload, 1) := by decide +kernel
theorem dX2_play_78 : decode cX2_play 78 = .ok (.invokestatic 122, 3) := by decide +kernel
theorem dX2_play_81 : decode cX2_play 81 = .ok (.iconst 1, 1) := by decide +kernel
theorem dX2_play_82 : decode cX2_play 82 = .ok (.aload_n 2, 1) := by decide +kernel
theorem dX2_play_83 : decode cX2_play 83 = .ok (.getfield 72, 3) := by decide +kernel
theorem dX2_play_86 : decode cX2_play 86 = .ok (.iload 4, 2) := by decide +kernel
theorem dX2_play_88 : decode cX2_play 88 = .ok (.iaload, 1) := by decide +kernel
theorem dX2_play_89 : decode cX2_play 89 = .ok (.ishl, 1) := by decide +kernel
theorem dX2_play_90 : decode cX2_play 90 = .ok (.ior, 1) := by decide +kernel
theorem dX2_play_91 : decode cX2_play 91 = .ok (.istore 5, 2) := by decide +kernel
theorem dX2_play_93 : decode cX2_play 93 = .ok (.aload_n 0, 1) := by decide +kernel
theorem dX2_play_94 : decode cX2_play 94 = .ok (.getfield 18, 3) := by decide +kernel
theorem dX2_play_97 : decode cX2_play 97 = .ok (.iload_n 1, 1) := by decide +kernel
theorem dX2_play_98 : decode cX2_play 98 = .ok (.iconst 1, 1) := by decide +kernel
theorem dX2_play_99 : decode cX2_play 99 = .ok (.iadd, 1) := by decide +kernel
theorem dX2_play_100 : decode cX2_play 100 = .ok (.aaload, 1) := by decide +kernel
theorem dX2_play_101 : decode cX2_play 101 = .ok (.astore 6, 2) := by decide +kernel
theorem dX2_play_103 : decode cX2_play 103 = .ok (.iconst 0, 1) := by decide +kernel
theorem dX2_play_104 : decode cX2_play 104 = .ok (.istore 7, 2) := by decide +kernel
theorem dX2_play_106 : decode cX2_play 106 = .ok (.iconst 0, 1) := by decide +kernel
theorem dX2_play_107 : decode cX2_play 107 = .ok (.istore 8, 2) := by decide +kernel
theorem dX2_play_109 : decode cX2_play 109 = .ok (.iconst 0, 1) := by decide +kernel
theorem dX2_play_110 : decode cX2_play 110 = .ok (.istore 9, 2) := by decide +kernel
theorem dX2_play_112 : decode cX2_play 112 = .ok (.iload 9, 2) := by decide +kernel
theorem dX2_play_114 : decode cX2_play 114 = .ok (.aload_n 0, 1) := by decide +kernel
theorem dX2_play_115 : decode cX2_play 115 = .ok (.getfield 29, 3) := by decide +kernel
theorem dX2_play_118 : decode cX2_play 118 = .ok (.getfield 63, 3) := by decide +kernel
theorem dX2_play_121 : decode cX2_play 121 = .ok (.getfield 67, 3) := by decide +kernel
theorem dX2_play_124 : decode cX2_play 124 = .ok (.if_icmp .ge 105, 3) := by decide +kernel
theorem dX2_play_127 : decode cX2_play 127 = .ok (.iload 5, 2) := by decide +kernel
theorem dX2_play_129 : decode cX2_play 129 = .ok (.iload 9, 2) := by decide +kernel
theorem dX2_play_131 : decode cX2_play 131 = .ok (.ishr, 1) := by decide +kernel
theorem dX2_play_132 : decode cX2_play 132 = .ok (.iconst 1, 1) := by decide +kernel
theorem dX2_play_133 : decode cX2_play 133 = .ok (.iand, 1) := by decide +kernel
theorem dX2_play_134 : decode cX2_play 134 = .ok (.iconst 1, 1) := by decide +kernel
theorem dX2_play_135 : decode cX2_play 135 = .ok (.if_icmp .ne 88, 3) := by decide +kernel
theorem dX2_play_138 : decode cX2_play 138 = .ok (.aload 6, 2) := by decide +kernel
theorem dX2_play_140 : decode cX2_play 140 = .ok (.aload_n 2, 1) := by decide +kernel
theorem dX2_play_141 : decode cX2_play 141 = .ok (.invokevirtual 42, 3) := by decide +kernel
theorem dX2_play_144 : decode cX2_play 144 = .ok (.aload 6, 2) := by decide +kernel
theorem dX2_play_146 : decode cX2_play 146 = .ok (.getfield 72, 3) := by decide +kernel
theorem dX2_play_149 : decode cX2_play 149 = .ok (.iload 4, 2) := by decide +kernel
theorem dX2_play_151 : decode cX2_play 151 = .ok (.iload 9, 2) := by decide +kernel
theorem dX2_play_153 : decode cX2_play 153 = .ok (.iastore, 1) := by decide +kernel
theorem dX2_play_154 : decode cX2_play 154 = .ok (.aload_n 0, 1) := by decide +kernel
theorem dX2_play_155 : decode cX2_play 155 = .ok (.getfield 33, 3) := by decide +kernel
theorem dX2_play_158 : decode cX2_play 158 = .ok (.aload 6, 2) := by decide +kernel
theorem dX2_play_160 : decode cX2_play 160 = .ok (.invokevirtual 59, 3) := by decide +kernel
theorem dX2_play_163 : decode cX2_play 163 = .ok (.pop, 1) := by decide +kernel
theorem dX2_play_164 : decode cX2_play 164 = .ok (.aload_n 0, 1) := by decide +kernel
theorem dX2_play_165 : decode cX2_play 165 = .ok (.iload_n 1, 1) := by decide +kernel
theorem dX2_play_166 : decode cX2_play 166 = .ok (.iconst 1, 1) := by decide +kernel
theorem dX2_play_167 : decode cX2_play 167 = .ok (.iadd, 1) := by decide +kernel
theorem dX2_play_168 : decode cX2_play 168 = .ok (.invokevirtual 115, 3) := by decide +kernel
theorem dX2_play_171 : decode cX2_play 171 = .ok (.istore 10, 2) := by decide +kernel
theorem dX2_play_173 : decode cX2_play 173 = .ok (.iload 8, 2) := by decide +kernel
theorem dX2_play_175 : decode cX2_play 175 = .ok (.ifCond .eq 24, 3) := by decide +kernel
theorem dX2_play_178 : decode cX2_play 178 = .ok (.iload_n 3, 1) := by decide +kernel
theorem dX2_play_179 : decode cX2_play 179 = .ok (.ifCond .eq 13, 3) := by decide +kernel
theorem dX2_play_182 : decode cX2_play 182 = .ok (.iload 10, 2) := by decide +kernel
theorem dX2_play_184 : decode cX2_play 184 = .ok (.iload 7, 2) := by decide +kernel
theorem dX2_play_186 : decode cX2_play 186 = .ok (.if_icmp .le 37, 3) := by decide +kernel
theorem dX2_play_189 : decode cX2_play 189 = .ok (.goto 10, 3) := by decide +kernel
theorem dX2_play_192 : decode cX2_play 192 = .ok (.iload 10, 2) := by decide +kernel
theorem dX2_play_194 : decode cX2_play 194 = .ok (.iload 7, 2) := by decide +kernel
theorem dX2_play_196 : decode cX2_play 196 = .ok (.if_icmp .ge 27, 3) := by decide +kernel
theorem dX2_play_199 : decode cX2_play 199 = .ok (.iconst 1, 1) := by decide +kernel
theorem dX2_play_200 : decode cX2_play 200 = .ok (.istore 8, 2) := by decide +kernel
theorem dX2_play_202 : decode cX2_play 202 = .ok (.iload 10, 2) := by decide +kernel
theorem dX2_play_204 : decode cX2_play 204 = .ok (.istore 7, 2) := by decide +kernel
theorem dX2_play_206 : decode cX2_play 206 = .ok (.aload_n 0, 1) := by decide +kernel
theorem dX2_play_207 : decode cX2_play 207 = .ok (.iload_n 1, 1) := by decide +kernel
theorem dX2_play_208 : decode cX2_play 208 = .ok (.ifCond .ne 8, 3) := by decide +kernel
theorem dX2_play_211 : decode cX2_play 211 = .ok (.iload 9, 2) := by decide +kernel
theorem dX2_play_213 : decode cX2_play 213 = .ok (.goto 7, 3) := by decide +kernel
theorem dX2_play_216 : decode cX2_play 216 = .ok (.aload_n 0, 1) := by decide +kernel
theorem dX2_play_217 : decode cX2_play 217 = .ok (.getfield 112, 3) := by decide +kernel
theorem dX2_play_220 : decode cX2_play 220 = .ok (.putfield 112, 3) := by decide +kernel
theorem dX2_play_223 : decode cX2_play 223 = .ok (.iinc 9 1, 3) := by decide +kernel
theorem dX2_play_226 : decode cX2_play 226 = .ok (.goto (-114), 3) := by decide +kernel
theorem dX2_play_229 : decode cX2_play 229 = .ok (.iload 7, 2) := by decide +kernel
theorem dX2_play_231 : decode cX2_play 231 = .ok (.ireturn, 1) := by decide +kernel
theorem dX2_lead_0 : decode cX2_lead 0 = .ok (.aload_n 1, 1) := by decide +kernel
theorem dX2_lead_1 : decode cX2_lead 1 = .ok (.getfield 75, 3) := by decide +kernel
theorem dX2_lead_4 : decode cX2_lead 4 = .ok (.aload_n 0, 1) := by decide +kernel
theorem dX2_lead_5 : decode cX2_lead 5 = .ok (.getfield 103, 3) := by decide +kernel
theorem dX2_lead_8 : decode cX2_lead 8 = .ok (.iaload, 1) := by decide +kernel
theorem dX2_lead_9 : decode cX2_lead 9 = .ok (.aload_n 1, 1) := by decide +kernel
theorem dX2_lead_10 : decode cX2_lead 10 = .ok (.getfield 75, 3) := by decide +kernel
theorem dX2_lead_13 : decode cX2_lead 13 = .ok (.aload_n 0, 1) := by decide +kernel
theorem dX2_lead_14 : decode cX2_lead 14 = .ok (.getfield 106, 3) := by decide +kernel
theorem dX2_lead_17 : decode cX2_lead 17 = .ok (.iaload, 1) := by decide +kernel
theorem dX2_lead_18 : decode cX2_lead 18 = .ok (.isub, 1) := by decide +kernel
theorem dX2_lead_19 : decode cX2_lead 19 = .ok (.ireturn, 1) := by decide +kernel
theorem dX2_stableTwos_0 : decode cX2_stableTwos 0 = .ok (.aload_n 0, 1) := by decide +kernel
theorem dX2_stableTwos_1 : decode cX2_stableTwos 1 = .ok (.iload_n 1, 1) := by decide +kernel
theorem dX2_stableTwos_2 : decode cX2_stableTwos 2 = .ok (.iload_n 2, 1) := by decide +kernel
theorem dX2_stableTwos_3 : decode cX2_stableTwos 3 = .ok (.iload_n 3, 1) := by decide +kernel
theorem dX2_stableTwos_4 : decode cX2_stableTwos 4 = .ok (.invokevirtual 125, 3) := by decide +kernel
theorem dX2_stableTwos_7 : decode cX2_stableTwos 7 = .ok (.iconst 0, 1) := by decide +kernel
theorem dX2_stableTwos_8 : decode cX2_stableTwos 8 = .ok (.istore 5, 2) := by decide +kernel
theorem dX2_stableTwos_10 : decode cX2_stableTwos 10 = .ok (.bipush (-2), 2) := by decide +kernel
theorem dX2_stableTwos_12 : decode cX2_stableTwos 12 = .ok (.istore 6, 2) := by decide +kernel
theorem dX2_stableTwos_14 : decode cX2_stableTwos 14 = .ok (.bipush (-2), 2) := by decide +kernel
theorem dX2_stableTwos_16 : decode cX2_stableTwos 16 = .ok (.istore 7, 2) := by decide +kernel
theorem dX2_stableTwos_18 : decode cX2_stableTwos 18 = .ok (.iconst 0, 1) := by decide +kernel
theorem dX2_stableTwos_19 : decode cX2_stableTwos 19 = .ok (.istore 8, 2) := by decide +kernel
theorem dX2_stableTwos_21 : decode cX2_stableTwos 21 = .ok (.iload 8, 2) := by decide +kernel
theorem dX2_stableTwos_23 : decode cX2_stableTwos 23 = .ok (.aload_n 0, 1) := by decide +kernel
theorem dX2_stableTwos_24 : decode cX2_stableTwos 24 = .ok (.getfield 29, 3) := by decide +kernel
theorem dX2_stableTwos_27 : decode cX2_stableTwos 27 = .ok (.getfield 63, 3) := by decide +kernel
theorem dX2_stableTwos_30 : decode cX2_stableTwos 30 = .ok (.getfield 67, 3) := by decide +kernel
theorem dX2_stableTwos_33 : decode cX2_stableTwos 33 = .ok (.if_icmp .ge 77, 3) := by decide +kernel
theorem dX2_stableTwos_36 : decode cX2_stableTwos 36 = .ok (.iconst 0, 1) := by decide +kernel
theorem dX2_stableTwos_37 : decode cX2_stableTwos 37 = .ok (.istore 9, 2) := by decide +kernel
theorem dX2_stableTwos_39 : decode cX2_stableTwos 39 = .ok (.iload 9, 2) := by decide +kernel
theorem dX2_stableTwos_41 : decode cX2_stableTwos 41 = .ok (.aload_n 0, 1) := by decide +kernel
theorem dX2_stableTwos_42 : decode cX2_stableTwos 42 = .ok (.getfield 29, 3) := by decide +kernel
theorem dX2_stableTwos_45 : decode cX2_stableTwos 45 = .ok (.getfield 63, 3) := by decide +kernel
theorem dX2_stableTwos_48 : decode cX2_stableTwos 48 = .ok (.getfield 67, 3) := by decide +kernel
theorem dX2_stableTwos_51 : decode cX2_stableTwos 51 = .ok (.if_icmp .ge 53, 3) := by decide +kernel
theorem dX2_stableTwos_54 : decode cX2_stableTwos 54 = .ok (.aload_n 0, 1) := by decide +kernel
theorem dX2_stableTwos_55 : decode cX2_stableTwos 55 = .ok (.iload 8, 2) := by decide +kernel
theorem dX2_stableTwos_57 : decode cX2_stableTwos 57 = .ok (.iload 9, 2) := by decide +kernel
theorem dX2_stableTwos_59 : decode cX2_stableTwos 59 = .ok (.invokevirtual 129, 3) := by decide +kernel
theorem dX2_stableTwos_62 : decode cX2_stableTwos 62 = .ok (.ifCond .eq 36, 3) := by decide +kernel
theorem dX2_stableTwos_65 : decode cX2_stableTwos 65 = .ok (.iinc 5 1, 3) := by decide +kernel
theorem dX2_stableTwos_68 : decode cX2_stableTwos 68 = .ok (.iload 5, 2) := by decide +kernel
theorem dX2_stableTwos_70 : decode cX2_stableTwos 70 = .ok (.iconst 1, 1) := by decide +kernel
theorem dX2_stableTwos_71 : decode cX2_stableTwos 71 = .ok (.if_icmp .ne 8, 3) := by decide +kernel
theorem dX2_stableTwos_74 : decode cX2_stableTwos 74 = .ok (.iload 8, 2) := by decide +kernel
theorem dX2_stableTwos_76 : decode cX2_stableTwos 76 = .ok (.goto 5, 3) := by decide +kernel
theorem dX2_stableTwos_79 : decode cX2_stableTwos 79 = .ok (.iload 6, 2) := by decide +kernel
theorem dX2_stableTwos_81 : decode cX2_stableTwos 81 = .ok (.istore 6, 2) := by decide +kernel
theorem dX2_stableTwos_83 : decode cX2_stableTwos 83 = .ok (.iload 5, 2) := by decide +kernel
theorem dX2_stableTwos_85 : decode cX2_stableTwos 85 = .ok (.iconst 1, 1) := by decide +kernel
theorem dX2_stableTwos_86 : decode cX2_stableTwos 86 = .ok (.if_icmp .ne 8, 3) := by decide +kernel
theorem dX2_stableTwos_89 : decode cX2_stableTwos 89 = .ok (.iload 9, 2) := by decide +kernel
theorem dX2_stableTwos_91 : decode cX2_stableTwos 91 = .ok (.goto 5, 3) := by decide +kernel
theorem dX2_stableTwos_94 : decode cX2_stableTwos 94 = .ok (.iload 7, 2) := by decide +kernel
theorem dX2_stableTwos_96 : decode cX2_stableTwos 96 = .ok (.istore 7, 2) := by decide +kernel
theorem dX2_stableTwos_98 : decode cX2_stableTwos 98 = .ok (.iinc 9 1, 3) := by decide +kernel
theorem dX2_stableTwos_101 : decode cX2_stableTwos 101 = .ok (.goto (-62), 3) := by decide +kernel
theorem dX2_stableTwos_104 : decode cX2_stableTwos 104 = .ok (.iinc 8 1, 3) := by decide +kernel
theorem dX2_stableTwos_107 : decode cX2_stableTwos 107 = .ok (.goto (-86), 3) := by decide +kernel
theorem dX2_stableTwos_110 : decode cX2_stableTwos 110 = .ok (.iload 4, 2) := by decide +kernel
theorem dX2_stableTwos_112 : decode cX2_stableTwos 112 = .ok (.ifCond .ne 6, 3) := by decide +kernel
theorem dX2_stableTwos_115 : decode cX2_stableTwos 115 = .ok (.iload 5, 2) := by decide +kernel
theorem dX2_stableTwos_117 : decode cX2_stableTwos 117 = .ok (.ireturn, 1) := by decide +kernel
theorem dX2_stableTwos_118 : decode cX2_stableTwos 118 = .ok (.iload 4, 2) := by decide +kernel
theorem dX2_stableTwos_120 : decode cX2_stableTwos 120 = .ok (.iconst 1, 1) := by decide +kernel
theorem dX2_stableTwos_121 : decode cX2_stableTwos 121 = .ok (.if_icmp .ne 8, 3) := by decide +kernel
theorem dX2_stableTwos_124 : decode cX2_stableTwos 124 = .ok (.iload 6, 2) := by decide +kernel
theorem dX2_stableTwos_126 : decode cX2_stableTwos 126 = .ok (.goto 5, 3) := by decide +kernel
theorem dX2_stableTwos_129 : decode cX2_stableTwos 129 = .ok (.iload 7, 2) := by decide +kernel
theorem dX2_stableTwos_131 : decode cX2_stableTwos 131 = .ok (.ireturn, 1) := by decide +kernel
theorem dX2_fillGains_0 : decode cX2_fillGains 0 = .ok (.iconst 0, 1) := by decide +kernel
theorem dX2_fillGains_1 : decode cX2_fillGains 1 = .ok (.istore 4, 2) := by decide +kernel
theorem dX2_fillGains_3 : decode cX2_fillGains 3 = .ok (.iload 4, 2) := by decide +kernel
theorem dX2_fillGains_5 : decode cX2_fillGains 5 = .ok (.aload_n 0, 1) := by decide +kernel
theorem dX2_fillGains_6 : decode cX2_fillGains 6 = .ok (.getfield 29, 3) := by decide +kernel
theorem dX2_fillGains_9 : decode cX2_fillGains 9 = .ok (.getfield 63, 3) := by decide +kernel
theorem dX2_fillGains_12 : decode cX2_fillGains 12 = .ok (.getfield 67, 3) := by decide +kernel
theorem dX2_fillGains_15 : decode cX2_fillGains 15 = .ok (.if_icmp .ge 149, 3) := by decide +kernel
theorem dX2_fillGains_18 : decode cX2_fillGains 18 = .ok (.iconst 0, 1) := by decide +kernel
theorem dX2_fillGains_19 : decode cX2_fillGains 19 = .ok (.istore 5, 2) := by decide +kernel
theorem dX2_fillGains_21 : decode cX2_fillGains 21 = .ok (.iload 5, 2) := by decide +kernel
theorem dX2_fillGains_23 : decode cX2_fillGains 23 = .ok (.aload_n 0, 1) := by decide +kernel
theorem dX2_fillGains_24 : decode cX2_fillGains 24 = .ok (.getfield 29, 3) := by decide +kernel
theorem dX2_fillGains_27 : decode cX2_fillGains 27 = .ok (.getfield 63, 3) := by decide +kernel
theorem dX2_fillGains_30 : decode cX2_fillGains 30 = .ok (.getfield 67, 3) := by decide +kernel
theorem dX2_fillGains_33 : decode cX2_fillGains 33 = .ok (.if_icmp .ge 125, 3) := by decide +kernel
theorem dX2_fillGains_36 : decode cX2_fillGains 36 = .ok (.aload_n 0, 1) := by decide +kernel
theorem dX2_fillGains_37 : decode cX2_fillGains 37 = .ok (.getfield 12, 3) := by decide +kernel
theorem dX2_fillGains_40 : decode cX2_fillGains 40 = .ok (.aload_n 0, 1) := by decide +kernel
theorem dX2_fillGains_41 : decode cX2_fillGains 41 = .ok (.getfield 29, 3) := by decide +kernel
theorem dX2_fillGains_44 : decode cX2_fillGains 44 = .ok (.getfield 37, 3) := by decide +kernel
theorem dX2_fillGains_47 : decode cX2_fillGains 47 = .ok (.invokevirtual 42, 3) := by decide +kernel
theorem dX2_fillGains_50 : decode cX2_fillGains 50 = .ok (.aload_n 0, 1) := by decide +kernel
theorem dX2_fillGains_51 : decode cX2_fillGains 51 = .ok (.getfield 12, 3) := by decide +kernel
theorem dX2_fillGains_54 : decode cX2_fillGains 54 = .ok (.getfield 72, 3) := by decide +kernel
theorem dX2_fillGains_57 : decode cX2_fillGains 57 = .ok (.iload_n 1, 1) := by decide +kernel
theorem dX2_fillGains_58 : decode cX2_fillGains 58 = .ok (.iload 4, 2) := by decide +kernel
theorem dX2_fillGains_60 : decode cX2_fillGains 60 = .ok (.iastore, 1) := by decide +kernel
theorem dX2_fillGains_61 : decode cX2_fillGains 61 = .ok (.aload_n 0, 1) := by decide +kernel
theorem dX2_fillGains_62 : decode cX2_fillGains 62 = .ok (.getfield 12, 3) := by decide +kernel
theorem dX2_fillGains_65 : decode cX2_fillGains 65 = .ok (.getfield 72, 3) := by decide +kernel
theorem dX2_fillGains_68 : decode cX2_fillGains 68 = .ok (.iload_n 2, 1) := by decide +kernel
theorem dX2_fillGains_69 : decode cX2_fillGains 69 = .ok (.iload 5, 2) := by decide +kernel
theorem dX2_fillGains_71 : decode cX2_fillGains 71 = .ok (.iastore, 1) := by decide +kernel
theorem dX2_fillGains_72 : decode cX2_fillGains 72 = .ok (.aload_n 0, 1) := by decide +kernel
theorem dX2_fillGains_73 : decode cX2_fillGains 73 = .ok (.getfield 33, 3) := by decide +kernel
theorem dX2_fillGains_76 : decode cX2_fillGains 76 = .ok (.aload_n 0, 1) := by decide +kernel
theorem dX2_fillGains_77 : decode cX2_fillGains 77 = .ok (.getfield 12, 3) := by decide +kernel
theorem dX2_fillGains_80 : decode cX2_fillGains 80 = .ok (.iload_n 3, 1) := by decide +kernel
theorem dX2_fillGains_81 : decode cX2_fillGains 81 = .ok (.invokevirtual 46, 3) := by decide +kernel
theorem dX2_fillGains_84 : decode cX2_fillGains 84 = .ok (.iload 4, 2) := by decide +kernel
theorem dX2_fillGains_86 : decode cX2_fillGains 86 = .ok (.bipush 8, 2) := by decide +kernel
theorem dX2_fillGains_88 : decode cX2_fillGains 88 = .ok (.imul, 1) := by decide +kernel
theorem dX2_fillGains_89 : decode cX2_fillGains 89 = .ok (.iload 5, 2) := by decide +kernel
theorem dX2_fillGains_91 : decode cX2_fillGains 91 = .ok (.iadd, 1) := by decide +kernel
theorem dX2_fillGains_92 : decode cX2_fillGains 92 = .ok (.istore 6, 2) := by decide +kernel
theorem dX2_fillGains_94 : decode cX2_fillGains 94 = .ok (.aload_n 0, 1) := by decide +kernel
theorem dX2_fillGains_95 : decode cX2_fillGains 95 = .ok (.getfield 22, 3) := by decide +kernel
theorem dX2_fillGains_98 : decode cX2_fillGains 98 = .ok (.iload 6, 2) := by decide +kernel
theorem dX2_fillGains_100 : decode cX2_fillGains 100 = .ok (.aload_n 0, 1) := by decide +kernel
theorem dX2_fillGains_101 : decode cX2_fillGains 101 = .ok (.getfield 12, 3) := by decide +kernel
theorem dX2_fillGains_104 : decode cX2_fillGains 104 = .ok (.getfield 75, 3) := by decide +kernel
theorem dX2_fillGains_107 : decode cX2_fillGains 107 = .ok (.iload_n 1, 1) := by decide +kernel
theorem dX2_fillGains_108 : decode cX2_fillGains 108 = .ok (.iaload, 1) := by decide +kernel
theorem dX2_fillGains_109 : decode cX2_fillGains 109 = .ok (.aload_n 0, 1) := by decide +kernel
theorem dX2_fillGains_110 : decode cX2_fillGains 110 = .ok (.getfield 29, 3) := by decide +kernel
theorem dX2_fillGains_113 : decode cX2_fillGains 113 = .ok (.getfield 37, 3) := by decide +kernel
theorem dX2_fillGains_116 : decode cX2_fillGains 116 = .ok (.getfield 75, 3) := by decide +kernel
theorem dX2_fillGains_119 : decode cX2_fillGains 119 = .ok (.iload_n 1, 1) := by decide +kernel
theorem dX2_fillGains_120 : decode cX2_fillGains 120 = .ok (.iaload, 1) := by decide +kernel
theorem dX2_fillGains_121 : decode cX2_fillGains 121 = .ok (.isub, 1) := by decide +kernel
theorem dX2_fillGains_122 : decode cX2_fillGains 122 = .ok (.iastore, 1) := by decide +kernel
theorem dX2_fillGains_123 : decode cX2_fillGains 123 = .ok (.aload_n 0, 1) := by decide +kernel
theorem dX2_fillGains_124 : decode cX2_fillGains 124 = .ok (.getfield 26, 3) := by decide +kernel
theorem dX2_fillGains_127 : decode cX2_fillGains 127 = .ok (.iload 6, 2) := by decide +kernel
theorem dX2_fillGains_129 : decode cX2_fillGains 129 = .ok (.aload_n 0, 1) := by decide +kernel
theorem dX2_fillGains_130 : decode cX2_fillGains 130 = .ok (.getfield 12, 3) := by decide +kernel
theorem dX2_fillGains_133 : decode cX2_fillGains 133 = .ok (.getfield 75, 3) := by decide +kernel
