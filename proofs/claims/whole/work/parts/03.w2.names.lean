theorem dX5_init_0 : decode cX5_init 0 = .ok (.aload_n 0, 1) := by decide +kernel
theorem dX5_init_1 : decode cX5_init 1 = .ok (.invokespecial 1, 3) := by decide +kernel
theorem dX5_init_4 : decode cX5_init 4 = .ok (.aload_n 0, 1) := by decide +kernel
theorem dX5_init_5 : decode cX5_init 5 = .ok (.sipush 251, 3) := by decide +kernel
theorem dX5_init_8 : decode cX5_init 8 = .ok (.newarray .int, 2) := by decide +kernel
theorem dX5_init_10 : decode cX5_init 10 = .ok (.putfield 7, 3) := by decide +kernel
theorem dX5_init_13 : decode cX5_init 13 = .ok (.aload_n 0, 1) := by decide +kernel
theorem dX5_init_14 : decode cX5_init 14 = .ok (.sipush 502, 3) := by decide +kernel
theorem dX5_init_17 : decode cX5_init 17 = .ok (.newarray .int, 2) := by decide +kernel
theorem dX5_init_19 : decode cX5_init 19 = .ok (.putfield 13, 3) := by decide +kernel
theorem dX5_init_22 : decode cX5_init 22 = .ok (.aload_n 0, 1) := by decide +kernel
theorem dX5_init_23 : decode cX5_init 23 = .ok (.iconst 2, 1) := by decide +kernel
theorem dX5_init_24 : decode cX5_init 24 = .ok (.newarray .boolean, 2) := by decide +kernel
theorem dX5_init_26 : decode cX5_init 26 = .ok (.putfield 16, 3) := by decide +kernel
theorem dX5_init_29 : decode cX5_init 29 = .ok (.aload_n 0, 1) := by decide +kernel
theorem dX5_init_30 : decode cX5_init 30 = .ok (.iconst 3, 1) := by decide +kernel
theorem dX5_init_31 : decode cX5_init 31 = .ok (.newarray .int, 2) := by decide +kernel
theorem dX5_init_33 : decode cX5_init 33 = .ok (.putfield 20, 3) := by decide +kernel
theorem dX5_init_36 : decode cX5_init 36 = .ok (.aload_n 0, 1) := by decide +kernel
theorem dX5_init_37 : decode cX5_init 37 = .ok (.lconst 1, 1) := by decide +kernel
theorem dX5_init_38 : decode cX5_init 38 = .ok (.putfield 23, 3) := by decide +kernel
theorem dX5_init_41 : decode cX5_init 41 = .ok (.aload_n 0, 1) := by decide +kernel
theorem dX5_init_42 : decode cX5_init 42 = .ok (.iconst 5, 1) := by decide +kernel
theorem dX5_init_43 : decode cX5_init 43 = .ok (.newarray .int, 2) := by decide +kernel
theorem dX5_init_45 : decode cX5_init 45 = .ok (.putfield 27, 3) := by decide +kernel
theorem dX5_init_48 : decode cX5_init 48 = .ok (.aload_n 0, 1) := by decide +kernel
theorem dX5_init_49 : decode cX5_init 49 = .ok (.iconst 5, 1) := by decide +kernel
theorem dX5_init_50 : decode cX5_init 50 = .ok (.newarray .int, 2) := by decide +kernel
theorem dX5_init_52 : decode cX5_init 52 = .ok (.putfield 30, 3) := by decide +kernel
theorem dX5_init_55 : decode cX5_init 55 = .ok (.aload_n 0, 1) := by decide +kernel
theorem dX5_init_56 : decode cX5_init 56 = .ok (.iconst 5, 1) := by decide +kernel
theorem dX5_init_57 : decode cX5_init 57 = .ok (.newarray .int, 2) := by decide +kernel
theorem dX5_init_59 : decode cX5_init 59 = .ok (.putfield 33, 3) := by decide +kernel
theorem dX5_init_62 : decode cX5_init 62 = .ok (.aload_n 0, 1) := by decide +kernel
theorem dX5_init_63 : decode cX5_init 63 = .ok (.iconst 5, 1) := by decide +kernel
theorem dX5_init_64 : decode cX5_init 64 = .ok (.newarray .int, 2) := by decide +kernel
theorem dX5_init_66 : decode cX5_init 66 = .ok (.putfield 36, 3) := by decide +kernel
theorem dX5_init_69 : decode cX5_init 69 = .ok (.aload_n 0, 1) := by decide +kernel
theorem dX5_init_70 : decode cX5_init 70 = .ok (.iconst 5, 1) := by decide +kernel
theorem dX5_init_71 : decode cX5_init 71 = .ok (.newarray .int, 2) := by decide +kernel
theorem dX5_init_73 : decode cX5_init 73 = .ok (.putfield 39, 3) := by decide +kernel
theorem dX5_init_76 : decode cX5_init 76 = .ok (.aload_n 0, 1) := by decide +kernel
theorem dX5_init_77 : decode cX5_init 77 = .ok (.iconst 5, 1) := by decide +kernel
theorem dX5_init_78 : decode cX5_init 78 = .ok (.newarray .int, 2) := by decide +kernel
theorem dX5_init_80 : decode cX5_init 80 = .ok (.putfield 42, 3) := by decide +kernel
theorem dX5_init_83 : decode cX5_init 83 = .ok (.aload_n 0, 1) := by decide +kernel
theorem dX5_init_84 : decode cX5_init 84 = .ok (.iconst 5, 1) := by decide +kernel
theorem dX5_init_85 : decode cX5_init 85 = .ok (.newarray .int, 2) := by decide +kernel
theorem dX5_init_87 : decode cX5_init 87 = .ok (.putfield 45, 3) := by decide +kernel
theorem dX5_init_90 : decode cX5_init 90 = .ok (.aload_n 0, 1) := by decide +kernel
theorem dX5_init_91 : decode cX5_init 91 = .ok (.iconst 5, 1) := by decide +kernel
theorem dX5_init_92 : decode cX5_init 92 = .ok (.newarray .int, 2) := by decide +kernel
theorem dX5_init_94 : decode cX5_init 94 = .ok (.putfield 48, 3) := by decide +kernel
theorem dX5_init_97 : decode cX5_init 97 = .ok (.aload_n 0, 1) := by decide +kernel
theorem dX5_init_98 : decode cX5_init 98 = .ok (.bipush 40, 2) := by decide +kernel
theorem dX5_init_100 : decode cX5_init 100 = .ok (.newarray .int, 2) := by decide +kernel
theorem dX5_init_102 : decode cX5_init 102 = .ok (.putfield 51, 3) := by decide +kernel
theorem dX5_init_105 : decode cX5_init 105 = .ok (.aload_n 0, 1) := by decide +kernel
theorem dX5_init_106 : decode cX5_init 106 = .ok (.bipush 31, 2) := by decide +kernel
theorem dX5_init_108 : decode cX5_init 108 = .ok (.newarray .int, 2) := by decide +kernel
theorem dX5_init_110 : decode cX5_init 110 = .ok (.putfield 54, 3) := by decide +kernel
theorem dX5_init_113 : decode cX5_init 113 = .ok (.aload_n 0, 1) := by decide +kernel
theorem dX5_init_114 : decode cX5_init 114 = .ok (.iconst 4, 1) := by decide +kernel
theorem dX5_init_115 : decode cX5_init 115 = .ok (.newarray .int, 2) := by decide +kernel
theorem dX5_init_117 : decode cX5_init 117 = .ok (.putfield 57, 3) := by decide +kernel
theorem dX5_init_120 : decode cX5_init 120 = .ok (.aload_n 0, 1) := by decide +kernel
theorem dX5_init_121 : decode cX5_init 121 = .ok (.iconst 4, 1) := by decide +kernel
theorem dX5_init_122 : decode cX5_init 122 = .ok (.newarray .int, 2) := by decide +kernel
theorem dX5_init_124 : decode cX5_init 124 = .ok (.putfield 60, 3) := by decide +kernel
theorem dX5_init_127 : decode cX5_init 127 = .ok (.aload_n 0, 1) := by decide +kernel
theorem dX5_init_128 : decode cX5_init 128 = .ok (.sipush 150, 3) := by decide +kernel
theorem dX5_init_131 : decode cX5_init 131 = .ok (.newarray .int, 2) := by decide +kernel
theorem dX5_init_133 : decode cX5_init 133 = .ok (.putfield 63, 3) := by decide +kernel
theorem dX5_init_136 : decode cX5_init 136 = .ok (.aload_n 0, 1) := by decide +kernel
theorem dX5_init_137 : decode cX5_init 137 = .ok (.bipush 75, 2) := by decide +kernel
theorem dX5_init_139 : decode cX5_init 139 = .ok (.newarray .int, 2) := by decide +kernel
theorem dX5_init_141 : decode cX5_init 141 = .ok (.putfield 66, 3) := by decide +kernel
theorem dX5_init_144 : decode cX5_init 144 = .ok (.aload_n 0, 1) := by decide +kernel
theorem dX5_init_145 : decode cX5_init 145 = .ok (.iconst 2, 1) := by decide +kernel
theorem dX5_init_146 : decode cX5_init 146 = .ok (.newarray .int, 2) := by decide +kernel
theorem dX5_init_148 : decode cX5_init 148 = .ok (.putfield 69, 3) := by decide +kernel
theorem dX5_init_151 : decode cX5_init 151 = .ok (.aload_n 0, 1) := by decide +kernel
theorem dX5_init_152 : decode cX5_init 152 = .ok (.getfield 7, 3) := by decide +kernel
theorem dX5_init_155 : decode cX5_init 155 = .ok (.bipush 30, 2) := by decide +kernel
theorem dX5_init_157 : decode cX5_init 157 = .ok (.invokestatic 72, 3) := by decide +kernel
theorem dX5_init_160 : decode cX5_init 160 = .ok (.return_, 1) := by decide +kernel
theorem dX5_in_0 : decode cX5_in 0 = .ok (.lload_n 0, 1) := by decide +kernel
theorem dX5_in_1 : decode cX5_in 1 = .ok (.lload_n 2, 1) := by decide +kernel
theorem dX5_in_2 : decode cX5_in 2 = .ok (.lcmp, 1) := by decide +kernel
theorem dX5_in_3 : decode cX5_in 3 = .ok (.ifCond .lt 14, 3) := by decide +kernel
theorem dX5_in_6 : decode cX5_in 6 = .ok (.lload_n 0, 1) := by decide +kernel
theorem dX5_in_7 : decode cX5_in 7 = .ok (.lload 4, 2) := by decide +kernel
theorem dX5_in_9 : decode cX5_in 9 = .ok (.lcmp, 1) := by decide +kernel
theorem dX5_in_10 : decode cX5_in 10 = .ok (.ifCond .gt 7, 3) := by decide +kernel
theorem dX5_in_13 : decode cX5_in 13 = .ok (.iconst 1, 1) := by decide +kernel
theorem dX5_in_14 : decode cX5_in 14 = .ok (.goto 4, 3) := by decide +kernel
theorem dX5_in_17 : decode cX5_in 17 = .ok (.iconst 0, 1) := by decide +kernel
theorem dX5_in_18 : decode cX5_in 18 = .ok (.ireturn, 1) := by decide +kernel
theorem dX5_bad_0 : decode cX5_bad 0 = .ok (.aload_n 0, 1) := by decide +kernel
theorem dX5_bad_1 : decode cX5_bad 1 = .ok (.getfield 20, 3) := by decide +kernel
theorem dX5_bad_4 : decode cX5_bad 4 = .ok (.iconst 0, 1) := by decide +kernel
theorem dX5_bad_5 : decode cX5_bad 5 = .ok (.dup2, 1) := by decide +kernel
theorem dX5_bad_6 : decode cX5_bad 6 = .ok (.iaload, 1) := by decide +kernel
theorem dX5_bad_7 : decode cX5_bad 7 = .ok (.iconst 1, 1) := by decide +kernel
theorem dX5_bad_8 : decode cX5_bad 8 = .ok (.iadd, 1) := by decide +kernel
theorem dX5_bad_9 : decode cX5_bad 9 = .ok (.iastore, 1) := by decide +kernel
theorem dX5_bad_10 : decode cX5_bad 10 = .ok (.iload_n 1, 1) := by decide +kernel
theorem dX5_bad_11 : decode cX5_bad 11 = .ok (.ireturn, 1) := by decide +kernel
theorem dX5_no_0 : decode cX5_no 0 = .ok (.aload_n 0, 1) := by decide +kernel
theorem dX5_no_1 : decode cX5_no 1 = .ok (.getfield 20, 3) := by decide +kernel
theorem dX5_no_4 : decode cX5_no 4 = .ok (.iconst 1, 1) := by decide +kernel
theorem dX5_no_5 : decode cX5_no 5 = .ok (.dup2, 1) := by decide +kernel
theorem dX5_no_6 : decode cX5_no 6 = .ok (.iaload, 1) := by decide +kernel
theorem dX5_no_7 : decode cX5_no 7 = .ok (.iconst 1, 1) := by decide +kernel
theorem dX5_no_8 : decode cX5_no 8 = .ok (.iadd, 1) := by decide +kernel
theorem dX5_no_9 : decode cX5_no 9 = .ok (.iastore, 1) := by decide +kernel
theorem dX5_no_10 : decode cX5_no 10 = .ok (.bipush (-3), 2) := by decide +kernel
theorem dX5_no_12 : decode cX5_no 12 = .ok (.ireturn, 1) := by decide +kernel
theorem dX5_full_0 : decode cX5_full 0 = .ok (.aload_n 0, 1) := by decide +kernel
theorem dX5_full_1 : decode cX5_full 1 = .ok (.getfield 20, 3) := by decide +kernel
theorem dX5_full_4 : decode cX5_full 4 = .ok (.iconst 2, 1) := by decide +kernel
theorem dX5_full_5 : decode cX5_full 5 = .ok (.dup2, 1) := by decide +kernel
theorem dX5_full_6 : decode cX5_full 6 = .ok (.iaload, 1) := by decide +kernel
theorem dX5_full_7 : decode cX5_full 7 = .ok (.iconst 1, 1) := by decide +kernel
theorem dX5_full_8 : decode cX5_full 8 = .ok (.iadd, 1) := by decide +kernel
theorem dX5_full_9 : decode cX5_full 9 = .ok (.iastore, 1) := by decide +kernel
theorem dX5_full_10 : decode cX5_full 10 = .ok (.bipush (-4), 2) := by decide +kernel
theorem dX5_full_12 : decode cX5_full 12 = .ok (.ireturn, 1) := by decide +kernel
theorem dX5_has_0 : decode cX5_has 0 = .ok (.iload_n 0, 1) := by decide +kernel
theorem dX5_has_1 : decode cX5_has 1 = .ok (.iload_n 1, 1) := by decide +kernel
theorem dX5_has_2 : decode cX5_has 2 = .ok (.ishr, 1) := by decide +kernel
theorem dX5_has_3 : decode cX5_has 3 = .ok (.iconst 1, 1) := by decide +kernel
theorem dX5_has_4 : decode cX5_has 4 = .ok (.iand, 1) := by decide +kernel
theorem dX5_has_5 : decode cX5_has 5 = .ok (.iconst 1, 1) := by decide +kernel
theorem dX5_has_6 : decode cX5_has 6 = .ok (.if_icmp .ne 7, 3) := by decide +kernel
theorem dX5_has_9 : decode cX5_has 9 = .ok (.iconst 1, 1) := by decide +kernel
theorem dX5_has_10 : decode cX5_has 10 = .ok (.goto 4, 3) := by decide +kernel
theorem dX5_has_13 : decode cX5_has 13 = .ok (.iconst 0, 1) := by decide +kernel
theorem dX5_has_14 : decode cX5_has 14 = .ok (.ireturn, 1) := by decide +kernel
theorem dX5_begin_0 : decode cX5_begin 0 = .ok (.iconst 0, 1) := by decide +kernel
theorem dX5_begin_1 : decode cX5_begin 1 = .ok (.istore_n 2, 1) := by decide +kernel
theorem dX5_begin_2 : decode cX5_begin 2 = .ok (.iload_n 2, 1) := by decide +kernel
theorem dX5_begin_3 : decode cX5_begin 3 = .ok (.bipush 75, 2) := by decide +kernel
theorem dX5_begin_5 : decode cX5_begin 5 = .ok (.if_icmp .ge 13, 3) := by decide +kernel
theorem dX5_begin_8 : decode cX5_begin 8 = .ok (.aload_n 0, 1) := by decide +kernel
theorem dX5_begin_9 : decode cX5_begin 9 = .ok (.iload_n 2, 1) := by decide +kernel
theorem dX5_begin_10 : decode cX5_begin 10 = .ok (.iconst 0, 1) := by decide +kernel
theorem dX5_begin_11 : decode cX5_begin 11 = .ok (.iastore, 1) := by decide +kernel
theorem dX5_begin_12 : decode cX5_begin 12 = .ok (.iinc 2 1, 3) := by decide +kernel
theorem dX5_begin_15 : decode cX5_begin 15 = .ok (.goto (-13), 3) := by decide +kernel
theorem dX5_begin_18 : decode cX5_begin 18 = .ok (.aload_n 0, 1) := by decide +kernel
theorem dX5_begin_19 : decode cX5_begin 19 = .ok (.bipush 24, 2) := by decide +kernel
theorem dX5_begin_21 : decode cX5_begin 21 = .ok (.iload_n 1, 1) := by decide +kernel
theorem dX5_begin_22 : decode cX5_begin 22 = .ok (.iastore, 1) := by decide +kernel
theorem dX5_begin_23 : decode cX5_begin 23 = .ok (.return_, 1) := by decide +kernel
theorem dX5_many_0 : decode cX5_many 0 = .ok (.aload_n 0, 1) := by decide +kernel
theorem dX5_many_1 : decode cX5_many 1 = .ok (.getfield 7, 3) := by decide +kernel
theorem dX5_many_4 : decode cX5_many 4 = .ok (.iconst 0, 1) := by decide +kernel
theorem dX5_many_5 : decode cX5_many 5 = .ok (.iaload, 1) := by decide +kernel
theorem dX5_many_6 : decode cX5_many 6 = .ok (.ireturn, 1) := by decide +kernel
theorem dX5_isWell_0 : decode cX5_isWell 0 = .ok (.iload_n 1, 1) := by decide +kernel
theorem dX5_isWell_1 : decode cX5_isWell 1 = .ok (.i2l, 1) := by decide +kernel
theorem dX5_isWell_2 : decode cX5_isWell 2 = .ok (.lconst 0, 1) := by decide +kernel
theorem dX5_isWell_3 : decode cX5_isWell 3 = .ok (.aload_n 0, 1) := by decide +kernel
theorem dX5_isWell_4 : decode cX5_isWell 4 = .ok (.invokevirtual 76, 3) := by decide +kernel
theorem dX5_isWell_7 : decode cX5_isWell 7 = .ok (.iconst 1, 1) := by decide +kernel
theorem dX5_isWell_8 : decode cX5_isWell 8 = .ok (.isub, 1) := by decide +kernel
theorem dX5_isWell_9 : decode cX5_isWell 9 = .ok (.i2l, 1) := by decide +kernel
theorem dX5_isWell_10 : decode cX5_isWell 10 = .ok (.invokestatic 80, 3) := by decide +kernel
theorem dX5_isWell_13 : decode cX5_isWell 13 = .ok (.ireturn, 1) := by decide +kernel
theorem dX5_isHour_0 : decode cX5_isHour 0 = .ok (.iload_n 0, 1) := by decide +kernel
theorem dX5_isHour_1 : decode cX5_isHour 1 = .ok (.i2l, 1) := by decide +kernel
theorem dX5_isHour_2 : decode cX5_isHour 2 = .ok (.lconst 0, 1) := by decide +kernel
theorem dX5_isHour_3 : decode cX5_isHour 3 = .ok (.ldc2_w 84, 3) := by decide +kernel
theorem dX5_isHour_6 : decode cX5_isHour 6 = .ok (.invokestatic 80, 3) := by decide +kernel
theorem dX5_isHour_9 : decode cX5_isHour 9 = .ok (.ireturn, 1) := by decide +kernel
theorem dX5_isPressure_0 : decode cX5_isPressure 0 = .ok (.iload_n 0, 1) := by decide +kernel
theorem dX5_isPressure_1 : decode cX5_isPressure 1 = .ok (.i2l, 1) := by decide +kernel
theorem dX5_isPressure_2 : decode cX5_isPressure 2 = .ok (.lconst 0, 1) := by decide +kernel
theorem dX5_isPressure_3 : decode cX5_isPressure 3 = .ok (.ldc2_w 86, 3) := by decide +kernel
theorem dX5_isPressure_6 : decode cX5_isPressure 6 = .ok (.invokestatic 80, 3) := by decide +kernel
theorem dX5_isPressure_9 : decode cX5_isPressure 9 = .ok (.ireturn, 1) := by decide +kernel
theorem dX5_isWanted_0 : decode cX5_isWanted 0 = .ok (.iload_n 0, 1) := by decide +kernel
theorem dX5_isWanted_1 : decode cX5_isWanted 1 = .ok (.i2l, 1) := by decide +kernel
theorem dX5_isWanted_2 : decode cX5_isWanted 2 = .ok (.lconst 1, 1) := by decide +kernel
theorem dX5_isWanted_3 : decode cX5_isWanted 3 = .ok (.ldc2_w 88, 3) := by decide +kernel
theorem dX5_isWanted_6 : decode cX5_isWanted 6 = .ok (.invokestatic 80, 3) := by decide +kernel
theorem dX5_isWanted_9 : decode cX5_isWanted 9 = .ok (.ireturn, 1) := by decide +kernel
theorem dX5_board_0 : decode cX5_board 0 = .ok (.iload_n 1, 1) := by decide +kernel
theorem dX5_board_1 : decode cX5_board 1 = .ok (.invokestatic 90, 3) := by decide +kernel
theorem dX5_board_4 : decode cX5_board 4 = .ok (.ifCond .ne 10, 3) := by decide +kernel
theorem dX5_board_7 : decode cX5_board 7 = .ok (.aload_n 0, 1) := by decide +kernel
theorem dX5_board_8 : decode cX5_board 8 = .ok (.bipush (-2), 2) := by decide +kernel
theorem dX5_board_10 : decode cX5_board 10 = .ok (.invokevirtual 94, 3) := by decide +kernel
theorem dX5_board_13 : decode cX5_board 13 = .ok (.ireturn, 1) := by decide +kernel
theorem dX5_board_14 : decode cX5_board 14 = .ok (.aload_n 0, 1) := by decide +kernel
theorem dX5_board_15 : decode cX5_board 15 = .ok (.invokevirtual 76, 3) := by decide +kernel
theorem dX5_board_18 : decode cX5_board 18 = .ok (.istore_n 2, 1) := by decide +kernel
theorem dX5_board_19 : decode cX5_board 19 = .ok (.aload_n 0, 1) := by decide +kernel
theorem dX5_board_20 : decode cX5_board 20 = .ok (.getfield 7, 3) := by decide +kernel
theorem dX5_board_23 : decode cX5_board 23 = .ok (.iload_n 1, 1) := by decide +kernel
theorem dX5_board_24 : decode cX5_board 24 = .ok (.invokestatic 72, 3) := by decide +kernel
theorem dX5_board_27 : decode cX5_board 27 = .ok (.iload_n 2, 1) := by decide +kernel
theorem dX5_board_28 : decode cX5_board 28 = .ok (.ireturn, 1) := by decide +kernel
theorem dX5_layWell_0 : decode cX5_layWell 0 = .ok (.aload_n 0, 1) := by decide +kernel
theorem dX5_layWell_1 : decode cX5_layWell 1 = .ok (.iconst 0, 1) := by decide +kernel
theorem dX5_layWell_2 : decode cX5_layWell 2 = .ok (.iaload, 1) := by decide +kernel
theorem dX5_layWell_3 : decode cX5_layWell 3 = .ok (.istore 4, 2) := by decide +kernel
theorem dX5_layWell_5 : decode cX5_layWell 5 = .ok (.aload_n 0, 1) := by decide +kernel
theorem dX5_layWell_6 : decode cX5_layWell 6 = .ok (.bipush 26, 2) := by decide +kernel
theorem dX5_layWell_8 : decode cX5_layWell 8 = .ok (.iload 4, 2) := by decide +kernel
theorem dX5_layWell_10 : decode cX5_layWell 10 = .ok (.iadd, 1) := by decide +kernel
theorem dX5_layWell_11 : decode cX5_layWell 11 = .ok (.iload_n 1, 1) := by decide +kernel
theorem dX5_layWell_12 : decode cX5_layWell 12 = .ok (.iastore, 1) := by decide +kernel
theorem dX5_layWell_13 : decode cX5_layWell 13 = .ok (.aload_n 0, 1) := by decide +kernel
theorem dX5_layWell_14 : decode cX5_layWell 14 = .ok (.bipush 19, 2) := by decide +kernel
theorem dX5_layWell_16 : decode cX5_layWell 16 = .ok (.iload 4, 2) := by decide +kernel
theorem dX5_layWell_18 : decode cX5_layWell 18 = .ok (.iadd, 1) := by decide +kernel
theorem dX5_layWell_19 : decode cX5_layWell 19 = .ok (.iload_n 2, 1) := by decide +kernel
theorem dX5_layWell_20 : decode cX5_layWell 20 = .ok (.iastore, 1) := by decide +kernel
theorem dX5_layWell_21 : decode cX5_layWell 21 = .ok (.aload_n 0, 1) := by decide +kernel
theorem dX5_layWell_22 : decode cX5_layWell 22 = .ok (.bipush 14, 2) := by decide +kernel
theorem dX5_layWell_24 : decode cX5_layWell 24 = .ok (.iload 4, 2) := by decide +kernel
theorem dX5_layWell_26 : decode cX5_layWell 26 = .ok (.iadd, 1) := by decide +kernel
theorem dX5_layWell_27 : decode cX5_layWell 27 = .ok (.iload_n 3, 1) := by decide +kernel
theorem dX5_layWell_28 : decode cX5_layWell 28 = .ok (.iastore, 1) := by decide +kernel
theorem dX5_layWell_29 : decode cX5_layWell 29 = .ok (.aload_n 0, 1) := by decide +kernel
theorem dX5_layWell_30 : decode cX5_layWell 30 = .ok (.iconst 4, 1) := by decide +kernel
theorem dX5_layWell_31 : decode cX5_layWell 31 = .ok (.iload 4, 2) := by decide +kernel
theorem dX5_layWell_33 : decode cX5_layWell 33 = .ok (.iadd, 1) := by decide +kernel
theorem dX5_layWell_34 : decode cX5_layWell 34 = .ok (.iconst 0, 1) := by decide +kernel
theorem dX5_layWell_35 : decode cX5_layWell 35 = .ok (.iastore, 1) := by decide +kernel
theorem dX5_layWell_36 : decode cX5_layWell 36 = .ok (.aload_n 0, 1) := by decide +kernel
theorem dX5_layWell_37 : decode cX5_layWell 37 = .ok (.bipush 9, 2) := by decide +kernel
theorem dX5_layWell_39 : decode cX5_layWell 39 = .ok (.iload 4, 2) := by decide +kernel
theorem dX5_layWell_41 : decode cX5_layWell 41 = .ok (.iadd, 1) := by decide +kernel
theorem dX5_layWell_42 : decode cX5_layWell 42 = .ok (.iconst 0, 1) := by decide +kernel
theorem dX5_layWell_43 : decode cX5_layWell 43 = .ok (.iastore, 1) := by decide +kernel
theorem dX5_layWell_44 : decode cX5_layWell 44 = .ok (.aload_n 0, 1) := by decide +kernel
theorem dX5_layWell_45 : decode cX5_layWell 45 = .ok (.iconst 0, 1) := by decide +kernel
theorem dX5_layWell_46 : decode cX5_layWell 46 = .ok (.dup2, 1) := by decide +kernel
theorem dX5_layWell_47 : decode cX5_layWell 47 = .ok (.iaload, 1) := by decide +kernel
theorem dX5_layWell_48 : decode cX5_layWell 48 = .ok (.iconst 1, 1) := by decide +kernel
theorem dX5_layWell_49 : decode cX5_layWell 49 = .ok (.iadd, 1) := by decide +kernel
theorem dX5_layWell_50 : decode cX5_layWell 50 = .ok (.iastore, 1) := by decide +kernel
theorem dX5_layWell_51 : decode cX5_layWell 51 = .ok (.return_, 1) := by decide +kernel
theorem dX5_well_0 : decode cX5_well 0 = .ok (.iload_n 1, 1) := by decide +kernel
theorem dX5_well_1 : decode cX5_well 1 = .ok (.i2l, 1) := by decide +kernel
theorem dX5_well_2 : decode cX5_well 2 = .ok (.lconst 0, 1) := by decide +kernel
theorem dX5_well_3 : decode cX5_well 3 = .ok (.ldc2_w 98, 3) := by decide +kernel
theorem dX5_well_6 : decode cX5_well 6 = .ok (.invokestatic 80, 3) := by decide +kernel
theorem dX5_well_9 : decode cX5_well 9 = .ok (.ifCond .eq 22, 3) := by decide +kernel
theorem dX5_well_12 : decode cX5_well 12 = .ok (.iload_n 2, 1) := by decide +kernel
theorem dX5_well_13 : decode cX5_well 13 = .ok (.invokestatic 100, 3) := by decide +kernel
theorem dX5_well_16 : decode cX5_well 16 = .ok (.ifCond .eq 15, 3) := by decide +kernel
theorem dX5_well_19 : decode cX5_well 19 = .ok (.iload_n 3, 1) := by decide +kernel
theorem dX5_well_20 : decode cX5_well 20 = .ok (.i2l, 1) := by decide +kernel
theorem dX5_well_21 : decode cX5_well 21 = .ok (.lconst 0, 1) := by decide +kernel
theorem dX5_well_22 : decode cX5_well 22 = .ok (.ldc2_w 103, 3) := by decide +kernel
theorem dX5_well_25 : decode cX5_well 25 = .ok (.invokestatic 80, 3) := by decide +kernel
theorem dX5_well_28 : decode cX5_well 28 = .ok (.ifCond .ne 10, 3) := by decide +kernel
theorem dX5_well_31 : decode cX5_well 31 = .ok (.aload_n 0, 1) := by decide +kernel
theorem dX5_well_32 : decode cX5_well 32 = .ok (.bipush (-2), 2) := by decide +kernel
theorem dX5_well_34 : decode cX5_well 34 = .ok (.invokevirtual 94, 3) := by decide +kernel
theorem dX5_well_37 : decode cX5_well 37 = .ok (.ireturn, 1) := by decide +kernel
theorem dX5_well_38 : decode cX5_well 38 = .ok (.aload_n 0, 1) := by decide +kernel
theorem dX5_well_39 : decode cX5_well 39 = .ok (.invokevirtual 76, 3) := by decide +kernel
theorem dX5_well_42 : decode cX5_well 42 = .ok (.iconst 5, 1) := by decide +kernel
theorem dX5_well_43 : decode cX5_well 43 = .ok (.if_icmp .ne 8, 3) := by decide +kernel
theorem dX5_well_46 : decode cX5_well 46 = .ok (.aload_n 0, 1) := by decide +kernel
theorem dX5_well_47 : decode cX5_well 47 = .ok (.invokevirtual 105, 3) := by decide +kernel
theorem dX5_well_50 : decode cX5_well 50 = .ok (.ireturn, 1) := by decide +kernel
theorem dX5_well_51 : decode cX5_well 51 = .ok (.aload_n 0, 1) := by decide +kernel
theorem dX5_well_52 : decode cX5_well 52 = .ok (.getfield 7, 3) := by decide +kernel
theorem dX5_well_55 : decode cX5_well 55 = .ok (.iload_n 1, 1) := by decide +kernel
theorem dX5_well_56 : decode cX5_well 56 = .ok (.iload_n 2, 1) := by decide +kernel
theorem dX5_well_57 : decode cX5_well 57 = .ok (.iload_n 3, 1) := by decide +kernel
theorem dX5_well_58 : decode cX5_well 58 = .ok (.invokestatic 108, 3) := by decide +kernel
theorem dX5_well_61 : decode cX5_well 61 = .ok (.aload_n 0, 1) := by decide +kernel
theorem dX5_well_62 : decode cX5_well 62 = .ok (.getfield 7, 3) := by decide +kernel
theorem dX5_well_65 : decode cX5_well 65 = .ok (.iconst 3, 1) := by decide +kernel
theorem dX5_well_66 : decode cX5_well 66 = .ok (.iconst 0, 1) := by decide +kernel
theorem dX5_well_67 : decode cX5_well 67 = .ok (.iastore, 1) := by decide +kernel
theorem dX5_well_68 : decode cX5_well 68 = .ok (.aload_n 0, 1) := by decide +kernel
theorem dX5_well_69 : decode cX5_well 69 = .ok (.invokevirtual 76, 3) := by decide +kernel
theorem dX5_well_72 : decode cX5_well 72 = .ok (.iconst 1, 1) := by decide +kernel
theorem dX5_well_73 : decode cX5_well 73 = .ok (.isub, 1) := by decide +kernel
theorem dX5_well_74 : decode cX5_well 74 = .ok (.ireturn, 1) := by decide +kernel
theorem dX5_getsAs_0 : decode cX5_getsAs 0 = .ok (.iload_n 2, 1) := by decide +kernel
theorem dX5_getsAs_1 : decode cX5_getsAs 1 = .ok (.iload_n 3, 1) := by decide +kernel
theorem dX5_getsAs_2 : decode cX5_getsAs 2 = .ok (.if_icmp .ge 7, 3) := by decide +kernel
theorem dX5_getsAs_5 : decode cX5_getsAs 5 = .ok (.iload_n 2, 1) := by decide +kernel
theorem dX5_getsAs_6 : decode cX5_getsAs 6 = .ok (.goto 4, 3) := by decide +kernel
theorem dX5_getsAs_9 : decode cX5_getsAs 9 = .ok (.iload_n 3, 1) := by decide +kernel
theorem dX5_getsAs_10 : decode cX5_getsAs 10 = .ok (.istore 4, 2) := by decide +kernel
theorem dX5_getsAs_12 : decode cX5_getsAs 12 = .ok (.iload_n 3, 1) := by decide +kernel
theorem dX5_getsAs_13 : decode cX5_getsAs 13 = .ok (.bipush 10, 2) := by decide +kernel
theorem dX5_getsAs_15 : decode cX5_getsAs 15 = .ok (.if_icmp .ge 10, 3) := by decide +kernel
theorem dX5_getsAs_18 : decode cX5_getsAs 18 = .ok (.iload 4, 2) := by decide +kernel
theorem dX5_getsAs_20 : decode cX5_getsAs 20 = .ok (.iconst 2, 1) := by decide +kernel
theorem dX5_getsAs_21 : decode cX5_getsAs 21 = .ok (.idiv, 1) := by decide +kernel
theorem dX5_getsAs_22 : decode cX5_getsAs 22 = .ok (.goto 5, 3) := by decide +kernel
theorem dX5_getsAs_25 : decode cX5_getsAs 25 = .ok (.iload 4, 2) := by decide +kernel
theorem dX5_getsAs_27 : decode cX5_getsAs 27 = .ok (.istore 5, 2) := by decide +kernel
theorem dX5_getsAs_29 : decode cX5_getsAs 29 = .ok (.iload_n 0, 1) := by decide +kernel
theorem dX5_getsAs_30 : decode cX5_getsAs 30 = .ok (.tableswitch 64 2 5 #[30, 64, 33, 47], 30) := by decide +kernel
theorem dX5_getsAs_60 : decode cX5_getsAs 60 = .ok (.iload 5, 2) := by decide +kernel
theorem dX5_getsAs_62 : decode cX5_getsAs 62 = .ok (.ireturn, 1) := by decide +kernel
theorem dX5_getsAs_63 : decode cX5_getsAs 63 = .ok (.iload_n 1, 1) := by decide +kernel
theorem dX5_getsAs_64 : decode cX5_getsAs 64 = .ok (.iconst 2, 1) := by decide +kernel
theorem dX5_getsAs_65 : decode cX5_getsAs 65 = .ok (.irem, 1) := by decide +kernel
theorem dX5_getsAs_66 : decode cX5_getsAs 66 = .ok (.iconst 1, 1) := by decide +kernel
theorem dX5_getsAs_67 : decode cX5_getsAs 67 = .ok (.if_icmp .ne 8, 3) := by decide +kernel
theorem dX5_getsAs_70 : decode cX5_getsAs 70 = .ok (.iload 4, 2) := by decide +kernel
theorem dX5_getsAs_72 : decode cX5_getsAs 72 = .ok (.goto 4, 3) := by decide +kernel
theorem dX5_getsAs_75 : decode cX5_getsAs 75 = .ok (.iconst 0, 1) := by decide +kernel
theorem dX5_getsAs_76 : decode cX5_getsAs 76 = .ok (.ireturn, 1) := by decide +kernel
theorem dX5_getsAs_77 : decode cX5_getsAs 77 = .ok (.iconst 2, 1) := by decide +kernel
theorem dX5_getsAs_78 : decode cX5_getsAs 78 = .ok (.iload 5, 2) := by decide +kernel
theorem dX5_getsAs_80 : decode cX5_getsAs 80 = .ok (.imul, 1) := by decide +kernel
theorem dX5_getsAs_81 : decode cX5_getsAs 81 = .ok (.iload_n 3, 1) := by decide +kernel
theorem dX5_getsAs_82 : decode cX5_getsAs 82 = .ok (.if_icmp .ge 10, 3) := by decide +kernel
theorem dX5_getsAs_85 : decode cX5_getsAs 85 = .ok (.iconst 2, 1) := by decide +kernel
theorem dX5_getsAs_86 : decode cX5_getsAs 86 = .ok (.iload 5, 2) := by decide +kernel
theorem dX5_getsAs_88 : decode cX5_getsAs 88 = .ok (.imul, 1) := by decide +kernel
theorem dX5_getsAs_89 : decode cX5_getsAs 89 = .ok (.goto 4, 3) := by decide +kernel
theorem dX5_getsAs_92 : decode cX5_getsAs 92 = .ok (.iload_n 3, 1) := by decide +kernel
theorem dX5_getsAs_93 : decode cX5_getsAs 93 = .ok (.ireturn, 1) := by decide +kernel
theorem dX5_getsAs_94 : decode cX5_getsAs 94 = .ok (.iload 4, 2) := by decide +kernel
theorem dX5_getsAs_96 : decode cX5_getsAs 96 = .ok (.ireturn, 1) := by decide +kernel
theorem dX5_dueAs_0 : decode cX5_dueAs 0 = .ok (.iload_n 0, 1) := by decide +kernel
theorem dX5_dueAs_1 : decode cX5_dueAs 1 = .ok (.tableswitch 54 1 5 #[35, 54, 39, 35, 41], 35) := by decide +kernel
theorem dX5_dueAs_36 : decode cX5_dueAs 36 = .ok (.iconst 2, 1) := by decide +kernel
theorem dX5_dueAs_37 : decode cX5_dueAs 37 = .ok (.iload_n 1, 1) := by decide +kernel
theorem dX5_dueAs_38 : decode cX5_dueAs 38 = .ok (.imul, 1) := by decide +kernel
theorem dX5_dueAs_39 : decode cX5_dueAs 39 = .ok (.ireturn, 1) := by decide +kernel
theorem dX5_dueAs_40 : decode cX5_dueAs 40 = .ok (.iconst 0, 1) := by decide +kernel
theorem dX5_dueAs_41 : decode cX5_dueAs 41 = .ok (.ireturn, 1) := by decide +kernel
theorem dX5_dueAs_42 : decode cX5_dueAs 42 = .ok (.iload_n 1, 1) := by decide +kernel
theorem dX5_dueAs_43 : decode cX5_dueAs 43 = .ok (.iconst 1, 1) := by decide +kernel
theorem dX5_dueAs_44 : decode cX5_dueAs 44 = .ok (.if_icmp .lt 9, 3) := by decide +kernel
theorem dX5_dueAs_47 : decode cX5_dueAs 47 = .ok (.iload_n 1, 1) := by decide +kernel
theorem dX5_dueAs_48 : decode cX5_dueAs 48 = .ok (.iconst 1, 1) := by decide +kernel
theorem dX5_dueAs_49 : decode cX5_dueAs 49 = .ok (.iadd, 1) := by decide +kernel
theorem dX5_dueAs_50 : decode cX5_dueAs 50 = .ok (.goto 4, 3) := by decide +kernel
theorem dX5_dueAs_53 : decode cX5_dueAs 53 = .ok (.iload_n 1, 1) := by decide +kernel
theorem dX5_dueAs_54 : decode cX5_dueAs 54 = .ok (.ireturn, 1) := by decide +kernel
theorem dX5_dueAs_55 : decode cX5_dueAs 55 = .ok (.iload_n 1, 1) := by decide +kernel
theorem dX5_dueAs_56 : decode cX5_dueAs 56 = .ok (.ireturn, 1) := by decide +kernel
theorem dX5_goHour_0 : decode cX5_goHour 0 = .ok (.aload_n 0, 1) := by decide +kernel
theorem dX5_goHour_1 : decode cX5_goHour 1 = .ok (.iload_n 3, 1) := by decide +kernel
theorem dX5_goHour_2 : decode cX5_goHour 2 = .ok (.putfield 112, 3) := by decide +kernel
theorem dX5_goHour_5 : decode cX5_goHour 5 = .ok (.iconst 0, 1) := by decide +kernel
theorem dX5_goHour_6 : decode cX5_goHour 6 = .ok (.istore 5, 2) := by decide +kernel
theorem dX5_goHour_8 : decode cX5_goHour 8 = .ok (.iload 5, 2) := by decide +kernel
theorem dX5_goHour_10 : decode cX5_goHour 10 = .ok (.aload_n 1, 1) := by decide +kernel
theorem dX5_goHour_11 : decode cX5_goHour 11 = .ok (.iconst 0, 1) := by decide +kernel
theorem dX5_goHour_12 : decode cX5_goHour 12 = .ok (.iaload, 1) := by decide +kernel
theorem dX5_goHour_13 : decode cX5_goHour 13 = .ok (.if_icmp .ge 79, 3) := by decide +kernel
theorem dX5_goHour_16 : decode cX5_goHour 16 = .ok (.aload_n 0, 1) := by decide +kernel
theorem dX5_goHour_17 : decode cX5_goHour 17 = .ok (.getfield 30, 3) := by decide +kernel
theorem dX5_goHour_20 : decode cX5_goHour 20 = .ok (.iload 5, 2) := by decide +kernel
theorem dX5_goHour_22 : decode cX5_goHour 22 = .ok (.aload_n 0, 1) := by decide +kernel
theorem dX5_goHour_23 : decode cX5_goHour 23 = .ok (.getfield 112, 3) := by decide +kernel
theorem dX5_goHour_26 : decode cX5_goHour 26 = .ok (.iastore, 1) := by decide +kernel
theorem dX5_goHour_27 : decode cX5_goHour 27 = .ok (.aload_n 0, 1) := by decide +kernel
theorem dX5_goHour_28 : decode cX5_goHour 28 = .ok (.getfield 27, 3) := by decide +kernel
theorem dX5_goHour_31 : decode cX5_goHour 31 = .ok (.iload 5, 2) := by decide +kernel
theorem dX5_goHour_33 : decode cX5_goHour 33 = .ok (.iload 4, 2) := by decide +kernel
theorem dX5_goHour_35 : decode cX5_goHour 35 = .ok (.iload 5, 2) := by decide +kernel
theorem dX5_goHour_37 : decode cX5_goHour 37 = .ok (.invokestatic 116, 3) := by decide +kernel
theorem dX5_goHour_40 : decode cX5_goHour 40 = .ok (.ifCond .eq 28, 3) := by decide +kernel
theorem dX5_goHour_43 : decode cX5_goHour 43 = .ok (.aload_n 1, 1) := by decide +kernel
theorem dX5_goHour_44 : decode cX5_goHour 44 = .ok (.bipush 26, 2) := by decide +kernel
theorem dX5_goHour_46 : decode cX5_goHour 46 = .ok (.iload 5, 2) := by decide +kernel
theorem dX5_goHour_48 : decode cX5_goHour 48 = .ok (.iadd, 1) := by decide +kernel
theorem dX5_goHour_49 : decode cX5_goHour 49 = .ok (.iaload, 1) := by decide +kernel
theorem dX5_goHour_50 : decode cX5_goHour 50 = .ok (.iload_n 2, 1) := by decide +kernel
theorem dX5_goHour_51 : decode cX5_goHour 51 = .ok (.aload_n 1, 1) := by decide +kernel
theorem dX5_goHour_52 : decode cX5_goHour 52 = .ok (.bipush 19, 2) := by decide +kernel
theorem dX5_goHour_54 : decode cX5_goHour 54 = .ok (.iload 5, 2) := by decide +kernel
theorem dX5_goHour_56 : decode cX5_goHour 56 = .ok (.iadd, 1) := by decide +kernel
theorem dX5_goHour_57 : decode cX5_goHour 57 = .ok (.iaload, 1) := by decide +kernel
theorem dX5_goHour_58 : decode cX5_goHour 58 = .ok (.aload_n 0, 1) := by decide +kernel
theorem dX5_goHour_59 : decode cX5_goHour 59 = .ok (.getfield 112, 3) := by decide +kernel
theorem dX5_goHour_62 : decode cX5_goHour 62 = .ok (.invokestatic 120, 3) := by decide +kernel
theorem dX5_goHour_65 : decode cX5_goHour 65 = .ok (.goto 4, 3) := by decide +kernel
theorem dX5_goHour_68 : decode cX5_goHour 68 = .ok (.iconst 0, 1) := by decide +kernel
theorem dX5_goHour_69 : decode cX5_goHour 69 = .ok (.iastore, 1) := by decide +kernel
theorem dX5_goHour_70 : decode cX5_goHour 70 = .ok (.aload_n 0, 1) := by decide +kernel
theorem dX5_goHour_71 : decode cX5_goHour 71 = .ok (.dup, 1) := by decide +kernel
theorem dX5_goHour_72 : decode cX5_goHour 72 = .ok (.getfield 112, 3) := by decide +kernel
theorem dX5_goHour_75 : decode cX5_goHour 75 = .ok (.aload_n 0, 1) := by decide +kernel
theorem dX5_goHour_76 : decode cX5_goHour 76 = .ok (.getfield 27, 3) := by decide +kernel
theorem dX5_goHour_79 : decode cX5_goHour 79 = .ok (.iload 5, 2) := by decide +kernel
theorem dX5_goHour_81 : decode cX5_goHour 81 = .ok (.iaload, 1) := by decide +kernel
theorem dX5_goHour_82 : decode cX5_goHour 82 = .ok (.isub, 1) := by decide +kernel
theorem dX5_goHour_83 : decode cX5_goHour 83 = .ok (.putfield 112, 3) := by decide +kernel
theorem dX5_goHour_86 : decode cX5_goHour 86 = .ok (.iinc 5 1, 3) := by decide +kernel
theorem dX5_goHour_89 : decode cX5_goHour 89 = .ok (.goto (-81), 3) := by decide +kernel
theorem dX5_goHour_92 : decode cX5_goHour 92 = .ok (.return_, 1) := by decide +kernel
theorem dX5_openIn_0 : decode cX5_openIn 0 = .ok (.iconst 0, 1) := by decide +kernel
theorem dX5_openIn_1 : decode cX5_openIn 1 = .ok (.istore_n 2, 1) := by decide +kernel
theorem dX5_openIn_2 : decode cX5_openIn 2 = .ok (.iconst 0, 1) := by decide +kernel
theorem dX5_openIn_3 : decode cX5_openIn 3 = .ok (.istore_n 3, 1) := by decide +kernel
theorem dX5_openIn_4 : decode cX5_openIn 4 = .ok (.iload_n 3, 1) := by decide +kernel
theorem dX5_openIn_5 : decode cX5_openIn 5 = .ok (.aload_n 0, 1) := by decide +kernel
theorem dX5_openIn_6 : decode cX5_openIn 6 = .ok (.iconst 0, 1) := by decide +kernel
theorem dX5_openIn_7 : decode cX5_openIn 7 = .ok (.iaload, 1) := by decide +kernel
theorem dX5_openIn_8 : decode cX5_openIn 8 = .ok (.if_icmp .ge 32, 3) := by decide +kernel
theorem dX5_openIn_11 : decode cX5_openIn 11 = .ok (.iload_n 2, 1) := by decide +kernel
theorem dX5_openIn_12 : decode cX5_openIn 12 = .ok (.aload_n 0, 1) := by decide +kernel
theorem dX5_openIn_13 : decode cX5_openIn 13 = .ok (.bipush 14, 2) := by decide +kernel
theorem dX5_openIn_15 : decode cX5_openIn 15 = .ok (.iload_n 3, 1) := by decide +kernel
theorem dX5_openIn_16 : decode cX5_openIn 16 = .ok (.iadd, 1) := by decide +kernel
theorem dX5_openIn_17 : decode cX5_openIn 17 = .ok (.iaload, 1) := by decide +kernel
theorem dX5_openIn_18 : decode cX5_openIn 18 = .ok (.iload_n 1, 1) := by decide +kernel
theorem dX5_openIn_19 : decode cX5_openIn 19 = .ok (.invokestatic 116, 3) := by decide +kernel
theorem dX5_openIn_22 : decode cX5_openIn 22 = .ok (.ifCond .eq 9, 3) := by decide +kernel
theorem dX5_openIn_25 : decode cX5_openIn 25 = .ok (.iconst 1, 1) := by decide +kernel
theorem dX5_openIn_26 : decode cX5_openIn 26 = .ok (.iload_n 3, 1) := by decide +kernel
theorem dX5_openIn_27 : decode cX5_openIn 27 = .ok (.ishl, 1) := by decide +kernel
theorem dX5_openIn_28 : decode cX5_openIn 28 = .ok (.goto 4, 3) := by decide +kernel
theorem dX5_openIn_31 : decode cX5_openIn 31 = .ok (.iconst 0, 1) := by decide +kernel
theorem dX5_openIn_32 : decode cX5_openIn 32 = .ok (.ior, 1) := by decide +kernel
theorem dX5_openIn_33 : decode cX5_openIn 33 = .ok (.istore_n 2, 1) := by decide +kernel
theorem dX5_openIn_34 : decode cX5_openIn 34 = .ok (.iinc 3 1, 3) := by decide +kernel
theorem dX5_openIn_37 : decode cX5_openIn 37 = .ok (.goto (-33), 3) := by decide +kernel
theorem dX5_openIn_40 : decode cX5_openIn 40 = .ok (.iload_n 2, 1) := by decide +kernel
theorem dX5_openIn_41 : decode cX5_openIn 41 = .ok (.ireturn, 1) := by decide +kernel
theorem dX5_sumOf_0 : decode cX5_sumOf 0 = .ok (.iconst 0, 1) := by decide +kernel
theorem dX5_sumOf_1 : decode cX5_sumOf 1 = .ok (.istore_n 2, 1) := by decide +kernel
theorem dX5_sumOf_2 : decode cX5_sumOf 2 = .ok (.iconst 0, 1) := by decide +kernel
theorem dX5_sumOf_3 : decode cX5_sumOf 3 = .ok (.istore_n 3, 1) := by decide +kernel
theorem dX5_sumOf_4 : decode cX5_sumOf 4 = .ok (.iload_n 3, 1) := by decide +kernel
theorem dX5_sumOf_5 : decode cX5_sumOf 5 = .ok (.aload_n 0, 1) := by decide +kernel
theorem dX5_sumOf_6 : decode cX5_sumOf 6 = .ok (.invokevirtual 76, 3) := by decide +kernel
theorem dX5_sumOf_9 : decode cX5_sumOf 9 = .ok (.if_icmp .ge 15, 3) := by decide +kernel
theorem dX5_sumOf_12 : decode cX5_sumOf 12 = .ok (.iload_n 2, 1) := by decide +kernel
theorem dX5_sumOf_13 : decode cX5_sumOf 13 = .ok (.aload_n 1, 1) := by decide +kernel
theorem dX5_sumOf_14 : decode cX5_sumOf 14 = .ok (.iload_n 3, 1) := by decide +kernel
theorem dX5_sumOf_15 : decode cX5_sumOf 15 = .ok (.iaload, 1) := by decide +kernel
theorem dX5_sumOf_16 : decode cX5_sumOf 16 = .ok (.iadd, 1) := by decide +kernel
theorem dX5_sumOf_17 : decode cX5_sumOf 17 = .ok (.istore_n 2, 1) := by decide +kernel
theorem dX5_sumOf_18 : decode cX5_sumOf 18 = .ok (.iinc 3 1, 3) := by decide +kernel
theorem dX5_sumOf_21 : decode cX5_sumOf 21 = .ok (.goto (-17), 3) := by decide +kernel
theorem dX5_sumOf_24 : decode cX5_sumOf 24 = .ok (.iload_n 2, 1) := by decide +kernel
theorem dX5_sumOf_25 : decode cX5_sumOf 25 = .ok (.ireturn, 1) := by decide +kernel
theorem dX5_layDay_0 : decode cX5_layDay 0 = .ok (.iconst 0, 1) := by decide +kernel
theorem dX5_layDay_1 : decode cX5_layDay 1 = .ok (.istore 4, 2) := by decide +kernel
theorem dX5_layDay_3 : decode cX5_layDay 3 = .ok (.iload 4, 2) := by decide +kernel
theorem dX5_layDay_5 : decode cX5_layDay 5 = .ok (.iconst 5, 1) := by decide +kernel
theorem dX5_layDay_6 : decode cX5_layDay 6 = .ok (.if_icmp .ge 25, 3) := by decide +kernel
theorem dX5_layDay_9 : decode cX5_layDay 9 = .ok (.aload_n 0, 1) := by decide +kernel
theorem dX5_layDay_10 : decode cX5_layDay 10 = .ok (.getfield 33, 3) := by decide +kernel
theorem dX5_layDay_13 : decode cX5_layDay 13 = .ok (.iload 4, 2) := by decide +kernel
theorem dX5_layDay_15 : decode cX5_layDay 15 = .ok (.iconst 0, 1) := by decide +kernel
theorem dX5_layDay_16 : decode cX5_layDay 16 = .ok (.iastore, 1) := by decide +kernel
theorem dX5_layDay_17 : decode cX5_layDay 17 = .ok (.aload_n 0, 1) := by decide +kernel
theorem dX5_layDay_18 : decode cX5_layDay 18 = .ok (.getfield 36, 3) := by decide +kernel
theorem dX5_layDay_21 : decode cX5_layDay 21 = .ok (.iload 4, 2) := by decide +kernel
theorem dX5_layDay_23 : decode cX5_layDay 23 = .ok (.iconst 0, 1) := by decide +kernel
theorem dX5_layDay_24 : decode cX5_layDay 24 = .ok (.iastore, 1) := by decide +kernel
theorem dX5_layDay_25 : decode cX5_layDay 25 = .ok (.iinc 4 1, 3) := by decide +kernel
theorem dX5_layDay_28 : decode cX5_layDay 28 = .ok (.goto (-25), 3) := by decide +kernel
theorem dX5_layDay_31 : decode cX5_layDay 31 = .ok (.iconst 0, 1) := by decide +kernel
theorem dX5_layDay_32 : decode cX5_layDay 32 = .ok (.istore 4, 2) := by decide +kernel
theorem dX5_layDay_34 : decode cX5_layDay 34 = .ok (.iload 4, 2) := by decide +kernel
theorem dX5_layDay_36 : decode cX5_layDay 36 = .ok (.bipush 8, 2) := by decide +kernel
theorem dX5_layDay_38 : decode cX5_layDay 38 = .ok (.if_icmp .ge 88, 3) := by decide +kernel
theorem dX5_layDay_41 : decode cX5_layDay 41 = .ok (.aload_n 0, 1) := by decide +kernel
theorem dX5_layDay_42 : decode cX5_layDay 42 = .ok (.aload_n 1, 1) := by decide +kernel
theorem dX5_layDay_43 : decode cX5_layDay 43 = .ok (.iload 4, 2) := by decide +kernel
theorem dX5_layDay_45 : decode cX5_layDay 45 = .ok (.iload_n 2, 1) := by decide +kernel
theorem dX5_layDay_46 : decode cX5_layDay 46 = .ok (.aload_n 1, 1) := by decide +kernel
theorem dX5_layDay_47 : decode cX5_layDay 47 = .ok (.iload 4, 2) := by decide +kernel
theorem dX5_layDay_49 : decode cX5_layDay 49 = .ok (.invokestatic 124, 3) := by decide +kernel
theorem dX5_layDay_52 : decode cX5_layDay 52 = .ok (.iload_n 3, 1) := by decide +kernel
theorem dX5_layDay_53 : decode cX5_layDay 53 = .ok (.iconst (-1), 1) := by decide +kernel
theorem dX5_layDay_54 : decode cX5_layDay 54 = .ok (.ixor, 1) := by decide +kernel
theorem dX5_layDay_55 : decode cX5_layDay 55 = .ok (.iand, 1) := by decide +kernel
theorem dX5_layDay_56 : decode cX5_layDay 56 = .ok (.invokevirtual 128, 3) := by decide +kernel
theorem dX5_layDay_59 : decode cX5_layDay 59 = .ok (.iconst 0, 1) := by decide +kernel
theorem dX5_layDay_60 : decode cX5_layDay 60 = .ok (.istore 5, 2) := by decide +kernel
theorem dX5_layDay_62 : decode cX5_layDay 62 = .ok (.iload 5, 2) := by decide +kernel
theorem dX5_layDay_64 : decode cX5_layDay 64 = .ok (.aload_n 1, 1) := by decide +kernel
theorem dX5_layDay_65 : decode cX5_layDay 65 = .ok (.iconst 0, 1) := by decide +kernel
theorem dX5_layDay_66 : decode cX5_layDay 66 = .ok (.iaload, 1) := by decide +kernel
theorem dX5_layDay_67 : decode cX5_layDay 67 = .ok (.if_icmp .ge 53, 3) := by decide +kernel
theorem dX5_layDay_70 : decode cX5_layDay 70 = .ok (.aload_n 0, 1) := by decide +kernel
theorem dX5_layDay_71 : decode cX5_layDay 71 = .ok (.getfield 33, 3) := by decide +kernel
theorem dX5_layDay_74 : decode cX5_layDay 74 = .ok (.iload 5, 2) := by decide +kernel
theorem dX5_layDay_76 : decode cX5_layDay 76 = .ok (.dup2, 1) := by decide +kernel
theorem dX5_layDay_77 : decode cX5_layDay 77 = .ok (.iaload, 1) := by decide +kernel
theorem dX5_layDay_78 : decode cX5_layDay 78 = .ok (.aload_n 0, 1) := by decide +kernel
theorem dX5_layDay_79 : decode cX5_layDay 79 = .ok (.getfield 27, 3) := by decide +kernel
theorem dX5_layDay_82 : decode cX5_layDay 82 = .ok (.iload 5, 2) := by decide +kernel
theorem dX5_layDay_84 : decode cX5_layDay 84 = .ok (.iaload, 1) := by decide +kernel
theorem dX5_layDay_85 : decode cX5_layDay 85 = .ok (.iadd, 1) := by decide +kernel
theorem dX5_layDay_86 : decode cX5_layDay 86 = .ok (.iastore, 1) := by decide +kernel
theorem dX5_layDay_87 : decode cX5_layDay 87 = .ok (.aload_n 0, 1) := by decide +kernel
theorem dX5_layDay_88 : decode cX5_layDay 88 = .ok (.getfield 36, 3) := by decide +kernel
theorem dX5_layDay_91 : decode cX5_layDay 91 = .ok (.iload 5, 2) := by decide +kernel
theorem dX5_layDay_93 : decode cX5_layDay 93 = .ok (.dup2, 1) := by decide +kernel
theorem dX5_layDay_94 : decode cX5_layDay 94 = .ok (.iaload, 1) := by decide +kernel
theorem dX5_layDay_95 : decode cX5_layDay 95 = .ok (.aload_n 1, 1) := by decide +kernel
theorem dX5_layDay_96 : decode cX5_layDay 96 = .ok (.bipush 26, 2) := by decide +kernel
theorem dX5_layDay_98 : decode cX5_layDay 98 = .ok (.iload 5, 2) := by decide +kernel
theorem dX5_layDay_100 : decode cX5_layDay 100 = .ok (.iadd, 1) := by decide +kernel
theorem dX5_layDay_101 : decode cX5_layDay 101 = .ok (.iaload, 1) := by decide +kernel
theorem dX5_layDay_102 : decode cX5_layDay 102 = .ok (.aload_n 0, 1) := by decide +kernel
theorem dX5_layDay_103 : decode cX5_layDay 103 = .ok (.getfield 27, 3) := by decide +kernel
theorem dX5_layDay_106 : decode cX5_layDay 106 = .ok (.iload 5, 2) := by decide +kernel
theorem dX5_layDay_108 : decode cX5_layDay 108 = .ok (.iaload, 1) := by decide +kernel
theorem dX5_layDay_109 : decode cX5_layDay 109 = .ok (.invokestatic 131, 3) := by decide +kernel
theorem dX5_layDay_112 : decode cX5_layDay 112 = .ok (.iadd, 1) := by decide +kernel
theorem dX5_layDay_113 : decode cX5_layDay 113 = .ok (.iastore, 1) := by decide +kernel
theorem dX5_layDay_114 : decode cX5_layDay 114 = .ok (.iinc 5 1, 3) := by decide +kernel
theorem dX5_layDay_117 : decode cX5_layDay 117 = .ok (.goto (-55), 3) := by decide +kernel
theorem dX5_layDay_120 : decode cX5_layDay 120 = .ok (.iinc 4 1, 3) := by decide +kernel
theorem dX5_layDay_123 : decode cX5_layDay 123 = .ok (.goto (-89), 3) := by decide +kernel
theorem dX5_layDay_126 : decode cX5_layDay 126 = .ok (.return_, 1) := by decide +kernel
theorem dX5_passDay_0 : decode cX5_passDay 0 = .ok (.iconst 0, 1) := by decide +kernel
theorem dX5_passDay_1 : decode cX5_passDay 1 = .ok (.istore_n 2, 1) := by decide +kernel
theorem dX5_passDay_2 : decode cX5_passDay 2 = .ok (.aload_n 0, 1) := by decide +kernel
theorem dX5_passDay_3 : decode cX5_passDay 3 = .ok (.aload_n 1, 1) := by decide +kernel
theorem dX5_passDay_4 : decode cX5_passDay 4 = .ok (.aload_n 1, 1) := by decide +kernel
theorem dX5_passDay_5 : decode cX5_passDay 5 = .ok (.bipush 24, 2) := by decide +kernel
theorem dX5_passDay_7 : decode cX5_passDay 7 = .ok (.iaload, 1) := by decide +kernel
theorem dX5_passDay_8 : decode cX5_passDay 8 = .ok (.iconst 0, 1) := by decide +kernel
theorem dX5_passDay_9 : decode cX5_passDay 9 = .ok (.invokevirtual 135, 3) := by decide +kernel
theorem dX5_passDay_12 : decode cX5_passDay 12 = .ok (.iconst 0, 1) := by decide +kernel
theorem dX5_passDay_13 : decode cX5_passDay 13 = .ok (.istore_n 3, 1) := by decide +kernel
theorem dX5_passDay_14 : decode cX5_passDay 14 = .ok (.iload_n 3, 1) := by decide +kernel
theorem dX5_passDay_15 : decode cX5_passDay 15 = .ok (.aload_n 1, 1) := by decide +kernel
theorem dX5_passDay_16 : decode cX5_passDay 16 = .ok (.iconst 0, 1) := by decide +kernel
theorem dX5_passDay_17 : decode cX5_passDay 17 = .ok (.iaload, 1) := by decide +kernel
theorem dX5_passDay_18 : decode cX5_passDay 18 = .ok (.if_icmp .ge 47, 3) := by decide +kernel
theorem dX5_passDay_21 : decode cX5_passDay 21 = .ok (.aload_n 1, 1) := by decide +kernel
theorem dX5_passDay_22 : decode cX5_passDay 22 = .ok (.iconst 4, 1) := by decide +kernel
theorem dX5_passDay_23 : decode cX5_passDay 23 = .ok (.iload_n 3, 1) := by decide +kernel
theorem dX5_passDay_24 : decode cX5_passDay 24 = .ok (.iadd, 1) := by decide +kernel
theorem dX5_passDay_25 : decode cX5_passDay 25 = .ok (.dup2, 1) := by decide +kernel
theorem dX5_passDay_26 : decode cX5_passDay 26 = .ok (.iaload, 1) := by decide +kernel
theorem dX5_passDay_27 : decode cX5_passDay 27 = .ok (.aload_n 0, 1) := by decide +kernel
theorem dX5_passDay_28 : decode cX5_passDay 28 = .ok (.getfield 33, 3) := by decide +kernel
theorem dX5_passDay_31 : decode cX5_passDay 31 = .ok (.iload_n 3, 1) := by decide +kernel
theorem dX5_passDay_32 : decode cX5_passDay 32 = .ok (.iaload, 1) := by decide +kernel
theorem dX5_passDay_33 : decode cX5_passDay 33 = .ok (.iadd, 1) := by decide +kernel
theorem dX5_passDay_34 : decode cX5_passDay 34 = .ok (.iastore, 1) := by decide +kernel
theorem dX5_passDay_35 : decode cX5_passDay 35 = .ok (.aload_n 1, 1) := by decide +kernel
theorem dX5_passDay_36 : decode cX5_passDay 36 = .ok (.bipush 9, 2) := by decide +kernel
theorem dX5_passDay_38 : decode cX5_passDay 38 = .ok (.iload_n 3, 1) := by decide +kernel
theorem dX5_passDay_39 : decode cX5_passDay 39 = .ok (.iadd, 1) := by decide +kernel
theorem dX5_passDay_40 : decode cX5_passDay 40 = .ok (.dup2, 1) := by decide +kernel
theorem dX5_passDay_41 : decode cX5_passDay 41 = .ok (.iaload, 1) := by decide +kernel
theorem dX5_passDay_42 : decode cX5_passDay 42 = .ok (.aload_n 0, 1) := by decide +kernel
theorem dX5_passDay_43 : decode cX5_passDay 43 = .ok (.getfield 36, 3) := by decide +kernel
theorem dX5_passDay_46 : decode cX5_passDay 46 = .ok (.iload_n 3, 1) := by decide +kernel
theorem dX5_passDay_47 : decode cX5_passDay 47 = .ok (.iaload, 1) := by decide +kernel
theorem dX5_passDay_48 : decode cX5_passDay 48 = .ok (.iadd, 1) := by decide +kernel
theorem dX5_passDay_49 : decode cX5_passDay 49 = .ok (.iastore, 1) := by decide +kernel
theorem dX5_passDay_50 : decode cX5_passDay 50 = .ok (.iload_n 2, 1) := by decide +kernel
theorem dX5_passDay_51 : decode cX5_passDay 51 = .ok (.aload_n 0, 1) := by decide +kernel
theorem dX5_passDay_52 : decode cX5_passDay 52 = .ok (.getfield 33, 3) := by decide +kernel
theorem dX5_passDay_55 : decode cX5_passDay 55 = .ok (.iload_n 3, 1) := by decide +kernel
theorem dX5_passDay_56 : decode cX5_passDay 56 = .ok (.iaload, 1) := by decide +kernel
theorem dX5_passDay_57 : decode cX5_passDay 57 = .ok (.iadd, 1) := by decide +kernel
theorem dX5_passDay_58 : decode cX5_passDay 58 = .ok (.istore_n 2, 1) := by decide +kernel
theorem dX5_passDay_59 : decode cX5_passDay 59 = .ok (.iinc 3 1, 3) := by decide +kernel
theorem dX5_passDay_62 : decode cX5_passDay 62 = .ok (.goto (-48), 3) := by decide +kernel
theorem dX5_passDay_65 : decode cX5_passDay 65 = .ok (.aload_n 1, 1) := by decide +kernel
theorem dX5_passDay_66 : decode cX5_passDay 66 = .ok (.bipush 25, 2) := by decide +kernel
theorem dX5_passDay_68 : decode cX5_passDay 68 = .ok (.dup2, 1) := by decide +kernel
theorem dX5_passDay_69 : decode cX5_passDay 69 = .ok (.iaload, 1) := by decide +kernel
theorem dX5_passDay_70 : decode cX5_passDay 70 = .ok (.iconst 1, 1) := by decide +kernel
theorem dX5_passDay_71 : decode cX5_passDay 71 = .ok (.iadd, 1) := by decide +kernel
theorem dX5_passDay_72 : decode cX5_passDay 72 = .ok (.iastore, 1) := by decide +kernel
theorem dX5_passDay_73 : decode cX5_passDay 73 = .ok (.iload_n 2, 1) := by decide +kernel
theorem dX5_passDay_74 : decode cX5_passDay 74 = .ok (.ireturn, 1) := by decide +kernel
theorem dX5_keep_0 : decode cX5_keep 0 = .ok (.aload_n 0, 1) := by decide +kernel
theorem dX5_keep_1 : decode cX5_keep 1 = .ok (.getfield 7, 3) := by decide +kernel
theorem dX5_keep_4 : decode cX5_keep 4 = .ok (.iconst 3, 1) := by decide +kernel
theorem dX5_keep_5 : decode cX5_keep 5 = .ok (.iaload, 1) := by decide +kernel
theorem dX5_keep_6 : decode cX5_keep 6 = .ok (.bipush 8, 2) := by decide +kernel
theorem dX5_keep_8 : decode cX5_keep 8 = .ok (.if_icmp .ne 44, 3) := by decide +kernel
theorem dX5_keep_11 : decode cX5_keep 11 = .ok (.iconst 0, 1) := by decide +kernel
theorem dX5_keep_12 : decode cX5_keep 12 = .ok (.istore_n 1, 1) := by decide +kernel
theorem dX5_keep_13 : decode cX5_keep 13 = .ok (.iload_n 1, 1) := by decide +kernel
theorem dX5_keep_14 : decode cX5_keep 14 = .ok (.sipush 154, 3) := by decide +kernel
theorem dX5_keep_17 : decode cX5_keep 17 = .ok (.if_icmp .ge 27, 3) := by decide +kernel
theorem dX5_keep_20 : decode cX5_keep 20 = .ok (.aload_n 0, 1) := by decide +kernel
theorem dX5_keep_21 : decode cX5_keep 21 = .ok (.getfield 7, 3) := by decide +kernel
theorem dX5_keep_24 : decode cX5_keep 24 = .ok (.bipush 75, 2) := by decide +kernel
theorem dX5_keep_26 : decode cX5_keep 26 = .ok (.iload_n 1, 1) := by decide +kernel
theorem dX5_keep_27 : decode cX5_keep 27 = .ok (.iadd, 1) := by decide +kernel
theorem dX5_keep_28 : decode cX5_keep 28 = .ok (.aload_n 0, 1) := by decide +kernel
theorem dX5_keep_29 : decode cX5_keep 29 = .ok (.getfield 7, 3) := by decide +kernel
theorem dX5_keep_32 : decode cX5_keep 32 = .ok (.bipush 97, 2) := by decide +kernel
theorem dX5_keep_34 : decode cX5_keep 34 = .ok (.iload_n 1, 1) := by decide +kernel
theorem dX5_keep_35 : decode cX5_keep 35 = .ok (.iadd, 1) := by decide +kernel
theorem dX5_keep_36 : decode cX5_keep 36 = .ok (.iaload, 1) := by decide +kernel
theorem dX5_keep_37 : decode cX5_keep 37 = .ok (.iastore, 1) := by decide +kernel
theorem dX5_keep_38 : decode cX5_keep 38 = .ok (.iinc 1 1, 3) := by decide +kernel
theorem dX5_keep_41 : decode cX5_keep 41 = .ok (.goto (-28), 3) := by decide +kernel
theorem dX5_keep_44 : decode cX5_keep 44 = .ok (.aload_n 0, 1) := by decide +kernel
theorem dX5_keep_45 : decode cX5_keep 45 = .ok (.getfield 7, 3) := by decide +kernel
theorem dX5_keep_48 : decode cX5_keep 48 = .ok (.iconst 3, 1) := by decide +kernel
theorem dX5_keep_49 : decode cX5_keep 49 = .ok (.bipush 7, 2) := by decide +kernel
theorem dX5_keep_51 : decode cX5_keep 51 = .ok (.iastore, 1) := by decide +kernel
theorem dX5_keep_52 : decode cX5_keep 52 = .ok (.iconst 0, 1) := by decide +kernel
theorem dX5_keep_53 : decode cX5_keep 53 = .ok (.istore_n 1, 1) := by decide +kernel
theorem dX5_keep_54 : decode cX5_keep 54 = .ok (.iload_n 1, 1) := by decide +kernel
theorem dX5_keep_55 : decode cX5_keep 55 = .ok (.bipush 22, 2) := by decide +kernel
theorem dX5_keep_57 : decode cX5_keep 57 = .ok (.if_icmp .ge 36, 3) := by decide +kernel
theorem dX5_keep_60 : decode cX5_keep 60 = .ok (.aload_n 0, 1) := by decide +kernel
theorem dX5_keep_61 : decode cX5_keep 61 = .ok (.getfield 7, 3) := by decide +kernel
theorem dX5_keep_64 : decode cX5_keep 64 = .ok (.bipush 75, 2) := by decide +kernel
theorem dX5_keep_66 : decode cX5_keep 66 = .ok (.bipush 22, 2) := by decide +kernel
theorem dX5_keep_68 : decode cX5_keep 68 = .ok (.aload_n 0, 1) := by decide +kernel
theorem dX5_keep_69 : decode cX5_keep 69 = .ok (.getfield 7, 3) := by decide +kernel
theorem dX5_keep_72 : decode cX5_keep 72 = .ok (.iconst 3, 1) := by decide +kernel
theorem dX5_keep_73 : decode cX5_keep 73 = .ok (.iaload, 1) := by decide +kernel
theorem dX5_keep_74 : decode cX5_keep 74 = .ok (.imul, 1) := by decide +kernel
theorem dX5_keep_75 : decode cX5_keep 75 = .ok (.iadd, 1) := by decide +kernel
theorem dX5_keep_76 : decode cX5_keep 76 = .ok (.iload_n 1, 1) := by decide +kernel
theorem dX5_keep_77 : decode cX5_keep 77 = .ok (.iadd, 1) := by decide +kernel
theorem dX5_keep_78 : decode cX5_keep 78 = .ok (.aload_n 0, 1) := by decide +kernel
theorem dX5_keep_79 : decode cX5_keep 79 = .ok (.getfield 7, 3) := by decide +kernel
theorem dX5_keep_82 : decode cX5_keep 82 = .ok (.iconst 4, 1) := by decide +kernel
theorem dX5_keep_83 : decode cX5_keep 83 = .ok (.iload_n 1, 1) := by decide +kernel
theorem dX5_keep_84 : decode cX5_keep 84 = .ok (.iadd, 1) := by decide +kernel
theorem dX5_keep_85 : decode cX5_keep 85 = .ok (.iaload, 1) := by decide +kernel
theorem dX5_keep_86 : decode cX5_keep 86 = .ok (.iastore, 1) := by decide +kernel
theorem dX5_keep_87 : decode cX5_keep 87 = .ok (.iinc 1 1, 3) := by decide +kernel
theorem dX5_keep_90 : decode cX5_keep 90 = .ok (.goto (-36), 3) := by decide +kernel
theorem dX5_keep_93 : decode cX5_keep 93 = .ok (.aload_n 0, 1) := by decide +kernel
theorem dX5_keep_94 : decode cX5_keep 94 = .ok (.getfield 7, 3) := by decide +kernel
theorem dX5_keep_97 : decode cX5_keep 97 = .ok (.iconst 3, 1) := by decide +kernel
theorem dX5_keep_98 : decode cX5_keep 98 = .ok (.dup2, 1) := by decide +kernel
theorem dX5_keep_99 : decode cX5_keep 99 = .ok (.iaload, 1) := by decide +kernel
theorem dX5_keep_100 : decode cX5_keep 100 = .ok (.iconst 1, 1) := by decide +kernel
theorem dX5_keep_101 : decode cX5_keep 101 = .ok (.iadd, 1) := by decide +kernel
theorem dX5_keep_102 : decode cX5_keep 102 = .ok (.iastore, 1) := by decide +kernel
theorem dX5_keep_103 : decode cX5_keep 103 = .ok (.return_, 1) := by decide +kernel
theorem dX5_day_0 : decode cX5_day 0 = .ok (.iload_n 1, 1) := by decide +kernel
theorem dX5_day_1 : decode cX5_day 1 = .ok (.i2l, 1) := by decide +kernel
theorem dX5_day_2 : decode cX5_day 2 = .ok (.lconst 1, 1) := by decide +kernel
theorem dX5_day_3 : decode cX5_day 3 = .ok (.ldc2_w 139, 3) := by decide +kernel
theorem dX5_day_6 : decode cX5_day 6 = .ok (.invokestatic 80, 3) := by decide +kernel
theorem dX5_day_9 : decode cX5_day 9 = .ok (.ifCond .ne 10, 3) := by decide +kernel
theorem dX5_day_12 : decode cX5_day 12 = .ok (.aload_n 0, 1) := by decide +kernel
theorem dX5_day_13 : decode cX5_day 13 = .ok (.bipush (-2), 2) := by decide +kernel
theorem dX5_day_15 : decode cX5_day 15 = .ok (.invokevirtual 94, 3) := by decide +kernel
theorem dX5_day_18 : decode cX5_day 18 = .ok (.ireturn, 1) := by decide +kernel
theorem dX5_day_19 : decode cX5_day 19 = .ok (.iconst 0, 1) := by decide +kernel
theorem dX5_day_20 : decode cX5_day 20 = .ok (.istore_n 2, 1) := by decide +kernel
theorem dX5_day_21 : decode cX5_day 21 = .ok (.aload_n 0, 1) := by decide +kernel
theorem dX5_day_22 : decode cX5_day 22 = .ok (.invokevirtual 141, 3) := by decide +kernel
theorem dX5_day_25 : decode cX5_day 25 = .ok (.iconst 0, 1) := by decide +kernel
theorem dX5_day_26 : decode cX5_day 26 = .ok (.istore_n 3, 1) := by decide +kernel
theorem dX5_day_27 : decode cX5_day 27 = .ok (.iload_n 3, 1) := by decide +kernel
theorem dX5_day_28 : decode cX5_day 28 = .ok (.iload_n 1, 1) := by decide +kernel
theorem dX5_day_29 : decode cX5_day 29 = .ok (.if_icmp .ge 33, 3) := by decide +kernel
theorem dX5_day_32 : decode cX5_day 32 = .ok (.aload_n 0, 1) := by decide +kernel
theorem dX5_day_33 : decode cX5_day 33 = .ok (.getfield 7, 3) := by decide +kernel
theorem dX5_day_36 : decode cX5_day 36 = .ok (.bipush 25, 2) := by decide +kernel
theorem dX5_day_38 : decode cX5_day 38 = .ok (.iaload, 1) := by decide +kernel
theorem dX5_day_39 : decode cX5_day 39 = .ok (.sipush 999, 3) := by decide +kernel
theorem dX5_day_42 : decode cX5_day 42 = .ok (.if_icmp .ge 20, 3) := by decide +kernel
theorem dX5_day_45 : decode cX5_day 45 = .ok (.iload_n 2, 1) := by decide +kernel
theorem dX5_day_46 : decode cX5_day 46 = .ok (.aload_n 0, 1) := by decide +kernel
theorem dX5_day_47 : decode cX5_day 47 = .ok (.aload_n 0, 1) := by decide +kernel
theorem dX5_day_48 : decode cX5_day 48 = .ok (.getfield 7, 3) := by decide +kernel
theorem dX5_day_51 : decode cX5_day 51 = .ok (.invokevirtual 144, 3) := by decide +kernel
theorem dX5_day_54 : decode cX5_day 54 = .ok (.iadd, 1) := by decide +kernel
theorem dX5_day_55 : decode cX5_day 55 = .ok (.istore_n 2, 1) := by decide +kernel
theorem dX5_day_56 : decode cX5_day 56 = .ok (.iinc 3 1, 3) := by decide +kernel
theorem dX5_day_59 : decode cX5_day 59 = .ok (.goto (-32), 3) := by decide +kernel
theorem dX5_day_62 : decode cX5_day 62 = .ok (.iload_n 2, 1) := by decide +kernel
theorem dX5_day_63 : decode cX5_day 63 = .ok (.ireturn, 1) := by decide +kernel
theorem dX5_turn_0 : decode cX5_turn 0 = .ok (.aload_n 0, 1) := by decide +kernel
theorem dX5_turn_1 : decode cX5_turn 1 = .ok (.iload_n 1, 1) := by decide +kernel
theorem dX5_turn_2 : decode cX5_turn 2 = .ok (.invokevirtual 148, 3) := by decide +kernel
theorem dX5_turn_5 : decode cX5_turn 5 = .ok (.ifCond .eq 15, 3) := by decide +kernel
theorem dX5_turn_8 : decode cX5_turn 8 = .ok (.iload_n 2, 1) := by decide +kernel
theorem dX5_turn_9 : decode cX5_turn 9 = .ok (.i2l, 1) := by decide +kernel
theorem dX5_turn_10 : decode cX5_turn 10 = .ok (.lconst 0, 1) := by decide +kernel
theorem dX5_turn_11 : decode cX5_turn 11 = .ok (.ldc2_w 103, 3) := by decide +kernel
theorem dX5_turn_14 : decode cX5_turn 14 = .ok (.invokestatic 80, 3) := by decide +kernel
theorem dX5_turn_17 : decode cX5_turn 17 = .ok (.ifCond .ne 10, 3) := by decide +kernel
theorem dX5_turn_20 : decode cX5_turn 20 = .ok (.aload_n 0, 1) := by decide +kernel
theorem dX5_turn_21 : decode cX5_turn 21 = .ok (.bipush (-2), 2) := by decide +kernel
theorem dX5_turn_23 : decode cX5_turn 23 = .ok (.invokevirtual 94, 3) := by decide +kernel
theorem dX5_turn_26 : decode cX5_turn 26 = .ok (.ireturn, 1) := by decide +kernel
theorem dX5_turn_27 : decode cX5_turn 27 = .ok (.aload_n 0, 1) := by decide +kernel
theorem dX5_turn_28 : decode cX5_turn 28 = .ok (.getfield 7, 3) := by decide +kernel
theorem dX5_turn_31 : decode cX5_turn 31 = .ok (.bipush 14, 2) := by decide +kernel
theorem dX5_turn_33 : decode cX5_turn 33 = .ok (.iload_n 1, 1) := by decide +kernel
theorem dX5_turn_34 : decode cX5_turn 34 = .ok (.iadd, 1) := by decide +kernel
theorem dX5_turn_35 : decode cX5_turn 35 = .ok (.iaload, 1) := by decide +kernel
theorem dX5_turn_36 : decode cX5_turn 36 = .ok (.istore_n 3, 1) := by decide +kernel
theorem dX5_turn_37 : decode cX5_turn 37 = .ok (.aload_n 0, 1) := by decide +kernel
theorem dX5_turn_38 : decode cX5_turn 38 = .ok (.invokevirtual 141, 3) := by decide +kernel
theorem dX5_turn_41 : decode cX5_turn 41 = .ok (.aload_n 0, 1) := by decide +kernel
theorem dX5_turn_42 : decode cX5_turn 42 = .ok (.getfield 7, 3) := by decide +kernel
theorem dX5_turn_45 : decode cX5_turn 45 = .ok (.bipush 14, 2) := by decide +kernel
theorem dX5_turn_47 : decode cX5_turn 47 = .ok (.iload_n 1, 1) := by decide +kernel
theorem dX5_turn_48 : decode cX5_turn 48 = .ok (.iadd, 1) := by decide +kernel
theorem dX5_turn_49 : decode cX5_turn 49 = .ok (.iload_n 2, 1) := by decide +kernel
theorem dX5_turn_50 : decode cX5_turn 50 = .ok (.iastore, 1) := by decide +kernel
theorem dX5_turn_51 : decode cX5_turn 51 = .ok (.iload_n 3, 1) := by decide +kernel
theorem dX5_turn_52 : decode cX5_turn 52 = .ok (.ireturn, 1) := by decide +kernel
theorem dX5_want_0 : decode cX5_want 0 = .ok (.aload_n 0, 1) := by decide +kernel
theorem dX5_want_1 : decode cX5_want 1 = .ok (.iload_n 1, 1) := by decide +kernel
theorem dX5_want_2 : decode cX5_want 2 = .ok (.invokevirtual 148, 3) := by decide +kernel
theorem dX5_want_5 : decode cX5_want 5 = .ok (.ifCond .eq 10, 3) := by decide +kernel
theorem dX5_want_8 : decode cX5_want 8 = .ok (.iload_n 2, 1) := by decide +kernel
theorem dX5_want_9 : decode cX5_want 9 = .ok (.invokestatic 100, 3) := by decide +kernel
theorem dX5_want_12 : decode cX5_want 12 = .ok (.ifCond .ne 10, 3) := by decide +kernel
theorem dX5_want_15 : decode cX5_want 15 = .ok (.aload_n 0, 1) := by decide +kernel
theorem dX5_want_16 : decode cX5_want 16 = .ok (.bipush (-2), 2) := by decide +kernel
theorem dX5_want_18 : decode cX5_want 18 = .ok (.invokevirtual 94, 3) := by decide +kernel
theorem dX5_want_21 : decode cX5_want 21 = .ok (.ireturn, 1) := by decide +kernel
theorem dX5_want_22 : decode cX5_want 22 = .ok (.aload_n 0, 1) := by decide +kernel
theorem dX5_want_23 : decode cX5_want 23 = .ok (.getfield 7, 3) := by decide +kernel
theorem dX5_want_26 : decode cX5_want 26 = .ok (.bipush 19, 2) := by decide +kernel
theorem dX5_want_28 : decode cX5_want 28 = .ok (.iload_n 1, 1) := by decide +kernel
theorem dX5_want_29 : decode cX5_want 29 = .ok (.iadd, 1) := by decide +kernel
theorem dX5_want_30 : decode cX5_want 30 = .ok (.iaload, 1) := by decide +kernel
theorem dX5_want_31 : decode cX5_want 31 = .ok (.istore_n 3, 1) := by decide +kernel
theorem dX5_want_32 : decode cX5_want 32 = .ok (.aload_n 0, 1) := by decide +kernel
theorem dX5_want_33 : decode cX5_want 33 = .ok (.invokevirtual 141, 3) := by decide +kernel
theorem dX5_want_36 : decode cX5_want 36 = .ok (.aload_n 0, 1) := by decide +kernel
theorem dX5_want_37 : decode cX5_want 37 = .ok (.getfield 7, 3) := by decide +kernel
theorem dX5_want_40 : decode cX5_want 40 = .ok (.bipush 19, 2) := by decide +kernel
theorem dX5_want_42 : decode cX5_want 42 = .ok (.iload_n 1, 1) := by decide +kernel
theorem dX5_want_43 : decode cX5_want 43 = .ok (.iadd, 1) := by decide +kernel
theorem dX5_want_44 : decode cX5_want 44 = .ok (.iload_n 2, 1) := by decide +kernel
theorem dX5_want_45 : decode cX5_want 45 = .ok (.iastore, 1) := by decide +kernel
theorem dX5_want_46 : decode cX5_want 46 = .ok (.iload_n 3, 1) := by decide +kernel
theorem dX5_want_47 : decode cX5_want 47 = .ok (.ireturn, 1) := by decide +kernel
theorem dX5_press_0 : decode cX5_press 0 = .ok (.iload_n 1, 1) := by decide +kernel
theorem dX5_press_1 : decode cX5_press 1 = .ok (.invokestatic 90, 3) := by decide +kernel
theorem dX5_press_4 : decode cX5_press 4 = .ok (.ifCond .ne 10, 3) := by decide +kernel
theorem dX5_press_7 : decode cX5_press 7 = .ok (.aload_n 0, 1) := by decide +kernel
theorem dX5_press_8 : decode cX5_press 8 = .ok (.bipush (-2), 2) := by decide +kernel
theorem dX5_press_10 : decode cX5_press 10 = .ok (.invokevirtual 94, 3) := by decide +kernel
theorem dX5_press_13 : decode cX5_press 13 = .ok (.ireturn, 1) := by decide +kernel
theorem dX5_press_14 : decode cX5_press 14 = .ok (.aload_n 0, 1) := by decide +kernel
theorem dX5_press_15 : decode cX5_press 15 = .ok (.getfield 7, 3) := by decide +kernel
theorem dX5_press_18 : decode cX5_press 18 = .ok (.bipush 24, 2) := by decide +kernel
theorem dX5_press_20 : decode cX5_press 20 = .ok (.iaload, 1) := by decide +kernel
theorem dX5_press_21 : decode cX5_press 21 = .ok (.istore_n 2, 1) := by decide +kernel
theorem dX5_press_22 : decode cX5_press 22 = .ok (.aload_n 0, 1) := by decide +kernel
theorem dX5_press_23 : decode cX5_press 23 = .ok (.invokevirtual 141, 3) := by decide +kernel
theorem dX5_press_26 : decode cX5_press 26 = .ok (.aload_n 0, 1) := by decide +kernel
theorem dX5_press_27 : decode cX5_press 27 = .ok (.getfield 7, 3) := by decide +kernel
theorem dX5_press_30 : decode cX5_press 30 = .ok (.bipush 24, 2) := by decide +kernel
theorem dX5_press_32 : decode cX5_press 32 = .ok (.iload_n 1, 1) := by decide +kernel
theorem dX5_press_33 : decode cX5_press 33 = .ok (.iastore, 1) := by decide +kernel
theorem dX5_press_34 : decode cX5_press 34 = .ok (.iload_n 2, 1) := by decide +kernel
theorem dX5_press_35 : decode cX5_press 35 = .ok (.ireturn, 1) := by decide +kernel
theorem dX5_undo_0 : decode cX5_undo 0 = .ok (.aload_n 0, 1) := by decide +kernel
theorem dX5_undo_1 : decode cX5_undo 1 = .ok (.getfield 7, 3) := by decide +kernel
theorem dX5_undo_4 : decode cX5_undo 4 = .ok (.iconst 3, 1) := by decide +kernel
theorem dX5_undo_5 : decode cX5_undo 5 = .ok (.iaload, 1) := by decide +kernel
theorem dX5_undo_6 : decode cX5_undo 6 = .ok (.ifCond .ne 8, 3) := by decide +kernel
theorem dX5_undo_9 : decode cX5_undo 9 = .ok (.aload_n 0, 1) := by decide +kernel
theorem dX5_undo_10 : decode cX5_undo 10 = .ok (.invokevirtual 151, 3) := by decide +kernel
theorem dX5_undo_13 : decode cX5_undo 13 = .ok (.ireturn, 1) := by decide +kernel
theorem dX5_undo_14 : decode cX5_undo 14 = .ok (.aload_n 0, 1) := by decide +kernel
theorem dX5_undo_15 : decode cX5_undo 15 = .ok (.getfield 7, 3) := by decide +kernel
theorem dX5_undo_18 : decode cX5_undo 18 = .ok (.iconst 3, 1) := by decide +kernel
theorem dX5_undo_19 : decode cX5_undo 19 = .ok (.dup2, 1) := by decide +kernel
theorem dX5_undo_20 : decode cX5_undo 20 = .ok (.iaload, 1) := by decide +kernel
theorem dX5_undo_21 : decode cX5_undo 21 = .ok (.iconst 1, 1) := by decide +kernel
theorem dX5_undo_22 : decode cX5_undo 22 = .ok (.isub, 1) := by decide +kernel
theorem dX5_undo_23 : decode cX5_undo 23 = .ok (.iastore, 1) := by decide +kernel
theorem dX5_undo_24 : decode cX5_undo 24 = .ok (.iconst 0, 1) := by decide +kernel
theorem dX5_undo_25 : decode cX5_undo 25 = .ok (.istore_n 1, 1) := by decide +kernel
theorem dX5_undo_26 : decode cX5_undo 26 = .ok (.iload_n 1, 1) := by decide +kernel
theorem dX5_undo_27 : decode cX5_undo 27 = .ok (.bipush 22, 2) := by decide +kernel
theorem dX5_undo_29 : decode cX5_undo 29 = .ok (.if_icmp .ge 36, 3) := by decide +kernel
theorem dX5_undo_32 : decode cX5_undo 32 = .ok (.aload_n 0, 1) := by decide +kernel
theorem dX5_undo_33 : decode cX5_undo 33 = .ok (.getfield 7, 3) := by decide +kernel
theorem dX5_undo_36 : decode cX5_undo 36 = .ok (.iconst 4, 1) := by decide +kernel
theorem dX5_undo_37 : decode cX5_undo 37 = .ok (.iload_n 1, 1) := by decide +kernel
theorem dX5_undo_38 : decode cX5_undo 38 = .ok (.iadd, 1) := by decide +kernel
theorem dX5_undo_39 : decode cX5_undo 39 = .ok (.aload_n 0, 1) := by decide +kernel
theorem dX5_undo_40 : decode cX5_undo 40 = .ok (.getfield 7, 3) := by decide +kernel
theorem dX5_undo_43 : decode cX5_undo 43 = .ok (.bipush 75, 2) := by decide +kernel
theorem dX5_undo_45 : decode cX5_undo 45 = .ok (.bipush 22, 2) := by decide +kernel
theorem dX5_undo_47 : decode cX5_undo 47 = .ok (.aload_n 0, 1) := by decide +kernel
theorem dX5_undo_48 : decode cX5_undo 48 = .ok (.getfield 7, 3) := by decide +kernel
theorem dX5_undo_51 : decode cX5_undo 51 = .ok (.iconst 3, 1) := by decide +kernel
theorem dX5_undo_52 : decode cX5_undo 52 = .ok (.iaload, 1) := by decide +kernel
theorem dX5_undo_53 : decode cX5_undo 53 = .ok (.imul, 1) := by decide +kernel
theorem dX5_undo_54 : decode cX5_undo 54 = .ok (.iadd, 1) := by decide +kernel
theorem dX5_undo_55 : decode cX5_undo 55 = .ok (.iload_n 1, 1) := by decide +kernel
theorem dX5_undo_56 : decode cX5_undo 56 = .ok (.iadd, 1) := by decide +kernel
theorem dX5_undo_57 : decode cX5_undo 57 = .ok (.iaload, 1) := by decide +kernel
theorem dX5_undo_58 : decode cX5_undo 58 = .ok (.iastore, 1) := by decide +kernel
theorem dX5_undo_59 : decode cX5_undo 59 = .ok (.iinc 1 1, 3) := by decide +kernel
theorem dX5_undo_62 : decode cX5_undo 62 = .ok (.goto (-36), 3) := by decide +kernel
theorem dX5_undo_65 : decode cX5_undo 65 = .ok (.aload_n 0, 1) := by decide +kernel
theorem dX5_undo_66 : decode cX5_undo 66 = .ok (.getfield 7, 3) := by decide +kernel
theorem dX5_undo_69 : decode cX5_undo 69 = .ok (.bipush 25, 2) := by decide +kernel
theorem dX5_undo_71 : decode cX5_undo 71 = .ok (.iaload, 1) := by decide +kernel
theorem dX5_undo_72 : decode cX5_undo 72 = .ok (.ireturn, 1) := by decide +kernel
theorem dX5_of_0 : decode cX5_of 0 = .ok (.aload_n 0, 1) := by decide +kernel
theorem dX5_of_1 : decode cX5_of 1 = .ok (.iload_n 1, 1) := by decide +kernel
theorem dX5_of_2 : decode cX5_of 2 = .ok (.invokevirtual 148, 3) := by decide +kernel
theorem dX5_of_5 : decode cX5_of 5 = .ok (.ifCond .eq 15, 3) := by decide +kernel
theorem dX5_of_8 : decode cX5_of 8 = .ok (.iload_n 2, 1) := by decide +kernel
theorem dX5_of_9 : decode cX5_of 9 = .ok (.i2l, 1) := by decide +kernel
theorem dX5_of_10 : decode cX5_of 10 = .ok (.lconst 0, 1) := by decide +kernel
theorem dX5_of_11 : decode cX5_of 11 = .ok (.ldc2_w 154, 3) := by decide +kernel
theorem dX5_of_14 : decode cX5_of 14 = .ok (.invokestatic 80, 3) := by decide +kernel
theorem dX5_of_17 : decode cX5_of 17 = .ok (.ifCond .ne 10, 3) := by decide +kernel
theorem dX5_of_20 : decode cX5_of 20 = .ok (.aload_n 0, 1) := by decide +kernel
theorem dX5_of_21 : decode cX5_of 21 = .ok (.bipush (-2), 2) := by decide +kernel
theorem dX5_of_23 : decode cX5_of 23 = .ok (.invokevirtual 94, 3) := by decide +kernel
theorem dX5_of_26 : decode cX5_of 26 = .ok (.ireturn, 1) := by decide +kernel
theorem dX5_of_27 : decode cX5_of 27 = .ok (.iload_n 2, 1) := by decide +kernel
theorem dX5_of_28 : decode cX5_of 28 = .ok (.tableswitch 71 0 3 #[32, 42, 52, 62], 32) := by decide +kernel
theorem dX5_of_60 : decode cX5_of 60 = .ok (.aload_n 0, 1) := by decide +kernel
theorem dX5_of_61 : decode cX5_of 61 = .ok (.getfield 7, 3) := by decide +kernel
theorem dX5_of_64 : decode cX5_of 64 = .ok (.bipush 26, 2) := by decide +kernel
theorem dX5_of_66 : decode cX5_of 66 = .ok (.iload_n 1, 1) := by decide +kernel
theorem dX5_of_67 : decode cX5_of 67 = .ok (.iadd, 1) := by decide +kernel
theorem dX5_of_68 : decode cX5_of 68 = .ok (.iaload, 1) := by decide +kernel
theorem dX5_of_69 : decode cX5_of 69 = .ok (.ireturn, 1) := by decide +kernel
theorem dX5_of_70 : decode cX5_of 70 = .ok (.aload_n 0, 1) := by decide +kernel
theorem dX5_of_71 : decode cX5_of 71 = .ok (.getfield 7, 3) := by decide +kernel
theorem dX5_of_74 : decode cX5_of 74 = .ok (.bipush 19, 2) := by decide +kernel
theorem dX5_of_76 : decode cX5_of 76 = .ok (.iload_n 1, 1) := by decide +kernel
theorem dX5_of_77 : decode cX5_of 77 = .ok (.iadd, 1) := by decide +kernel
theorem dX5_of_78 : decode cX5_of 78 = .ok (.iaload, 1) := by decide +kernel
theorem dX5_of_79 : decode cX5_of 79 = .ok (.ireturn, 1) := by decide +kernel
theorem dX5_of_80 : decode cX5_of 80 = .ok (.aload_n 0, 1) := by decide +kernel
theorem dX5_of_81 : decode cX5_of 81 = .ok (.getfield 7, 3) := by decide +kernel
theorem dX5_of_84 : decode cX5_of 84 = .ok (.bipush 14, 2) := by decide +kernel
theorem dX5_of_86 : decode cX5_of 86 = .ok (.iload_n 1, 1) := by decide +kernel
theorem dX5_of_87 : decode cX5_of 87 = .ok (.iadd, 1) := by decide +kernel
theorem dX5_of_88 : decode cX5_of 88 = .ok (.iaload, 1) := by decide +kernel
theorem dX5_of_89 : decode cX5_of 89 = .ok (.ireturn, 1) := by decide +kernel
theorem dX5_of_90 : decode cX5_of 90 = .ok (.aload_n 0, 1) := by decide +kernel
theorem dX5_of_91 : decode cX5_of 91 = .ok (.getfield 7, 3) := by decide +kernel
theorem dX5_of_94 : decode cX5_of 94 = .ok (.iconst 4, 1) := by decide +kernel
theorem dX5_of_95 : decode cX5_of 95 = .ok (.iload_n 1, 1) := by decide +kernel
theorem dX5_of_96 : decode cX5_of 96 = .ok (.iadd, 1) := by decide +kernel
theorem dX5_of_97 : decode cX5_of 97 = .ok (.iaload, 1) := by decide +kernel
theorem dX5_of_98 : decode cX5_of 98 = .ok (.ireturn, 1) := by decide +kernel
theorem dX5_of_99 : decode cX5_of 99 = .ok (.aload_n 0, 1) := by decide +kernel
theorem dX5_of_100 : decode cX5_of 100 = .ok (.getfield 7, 3) := by decide +kernel
theorem dX5_of_103 : decode cX5_of 103 = .ok (.bipush 9, 2) := by decide +kernel
theorem dX5_of_105 : decode cX5_of 105 = .ok (.iload_n 1, 1) := by decide +kernel
theorem dX5_of_106 : decode cX5_of 106 = .ok (.iadd, 1) := by decide +kernel
theorem dX5_of_107 : decode cX5_of 107 = .ok (.iaload, 1) := by decide +kernel
theorem dX5_of_108 : decode cX5_of 108 = .ok (.ireturn, 1) := by decide +kernel
theorem dX5_hour_0 : decode cX5_hour 0 = .ok (.aload_n 0, 1) := by decide +kernel
theorem dX5_hour_1 : decode cX5_hour 1 = .ok (.iload_n 1, 1) := by decide +kernel
theorem dX5_hour_2 : decode cX5_hour 2 = .ok (.invokevirtual 148, 3) := by decide +kernel
theorem dX5_hour_5 : decode cX5_hour 5 = .ok (.ifCond .eq 22, 3) := by decide +kernel
theorem dX5_hour_8 : decode cX5_hour 8 = .ok (.iload_n 2, 1) := by decide +kernel
theorem dX5_hour_9 : decode cX5_hour 9 = .ok (.invokestatic 156, 3) := by decide +kernel
theorem dX5_hour_12 : decode cX5_hour 12 = .ok (.ifCond .eq 15, 3) := by decide +kernel
theorem dX5_hour_15 : decode cX5_hour 15 = .ok (.iload_n 3, 1) := by decide +kernel
theorem dX5_hour_16 : decode cX5_hour 16 = .ok (.i2l, 1) := by decide +kernel
theorem dX5_hour_17 : decode cX5_hour 17 = .ok (.lconst 0, 1) := by decide +kernel
theorem dX5_hour_18 : decode cX5_hour 18 = .ok (.ldc2_w 159, 3) := by decide +kernel
theorem dX5_hour_21 : decode cX5_hour 21 = .ok (.invokestatic 80, 3) := by decide +kernel
theorem dX5_hour_24 : decode cX5_hour 24 = .ok (.ifCond .ne 10, 3) := by decide +kernel
theorem dX5_hour_27 : decode cX5_hour 27 = .ok (.aload_n 0, 1) := by decide +kernel
theorem dX5_hour_28 : decode cX5_hour 28 = .ok (.bipush (-2), 2) := by decide +kernel
theorem dX5_hour_30 : decode cX5_hour 30 = .ok (.invokevirtual 94, 3) := by decide +kernel
theorem dX5_hour_33 : decode cX5_hour 33 = .ok (.ireturn, 1) := by decide +kernel
theorem dX5_hour_34 : decode cX5_hour 34 = .ok (.aload_n 0, 1) := by decide +kernel
theorem dX5_hour_35 : decode cX5_hour 35 = .ok (.aload_n 0, 1) := by decide +kernel
theorem dX5_hour_36 : decode cX5_hour 36 = .ok (.getfield 7, 3) := by decide +kernel
theorem dX5_hour_39 : decode cX5_hour 39 = .ok (.iload_n 2, 1) := by decide +kernel
theorem dX5_hour_40 : decode cX5_hour 40 = .ok (.aload_n 0, 1) := by decide +kernel
theorem dX5_hour_41 : decode cX5_hour 41 = .ok (.getfield 7, 3) := by decide +kernel
theorem dX5_hour_44 : decode cX5_hour 44 = .ok (.bipush 24, 2) := by decide +kernel
theorem dX5_hour_46 : decode cX5_hour 46 = .ok (.iaload, 1) := by decide +kernel
theorem dX5_hour_47 : decode cX5_hour 47 = .ok (.aload_n 0, 1) := by decide +kernel
theorem dX5_hour_48 : decode cX5_hour 48 = .ok (.getfield 7, 3) := by decide +kernel
theorem dX5_hour_51 : decode cX5_hour 51 = .ok (.iload_n 2, 1) := by decide +kernel
theorem dX5_hour_52 : decode cX5_hour 52 = .ok (.invokestatic 124, 3) := by decide +kernel
theorem dX5_hour_55 : decode cX5_hour 55 = .ok (.invokevirtual 128, 3) := by decide +kernel
theorem dX5_hour_58 : decode cX5_hour 58 = .ok (.iload_n 3, 1) := by decide +kernel
theorem dX5_hour_59 : decode cX5_hour 59 = .ok (.ifCond .ne 12, 3) := by decide +kernel
theorem dX5_hour_62 : decode cX5_hour 62 = .ok (.aload_n 0, 1) := by decide +kernel
theorem dX5_hour_63 : decode cX5_hour 63 = .ok (.getfield 27, 3) := by decide +kernel
theorem dX5_hour_66 : decode cX5_hour 66 = .ok (.iload_n 1, 1) := by decide +kernel
theorem dX5_hour_67 : decode cX5_hour 67 = .ok (.iaload, 1) := by decide +kernel
theorem dX5_hour_68 : decode cX5_hour 68 = .ok (.goto 21, 3) := by decide +kernel
theorem dX5_hour_71 : decode cX5_hour 71 = .ok (.iload_n 3, 1) := by decide +kernel
theorem dX5_hour_72 : decode cX5_hour 72 = .ok (.iconst 1, 1) := by decide +kernel
theorem dX5_hour_73 : decode cX5_hour 73 = .ok (.if_icmp .ne 12, 3) := by decide +kernel
theorem dX5_hour_76 : decode cX5_hour 76 = .ok (.aload_n 0, 1) := by decide +kernel
theorem dX5_hour_77 : decode cX5_hour 77 = .ok (.getfield 30, 3) := by decide +kernel
theorem dX5_hour_80 : decode cX5_hour 80 = .ok (.iload_n 1, 1) := by decide +kernel
theorem dX5_hour_81 : decode cX5_hour 81 = .ok (.iaload, 1) := by decide +kernel
theorem dX5_hour_82 : decode cX5_hour 82 = .ok (.goto 7, 3) := by decide +kernel
theorem dX5_hour_85 : decode cX5_hour 85 = .ok (.aload_n 0, 1) := by decide +kernel
theorem dX5_hour_86 : decode cX5_hour 86 = .ok (.getfield 112, 3) := by decide +kernel
theorem dX5_hour_89 : decode cX5_hour 89 = .ok (.ireturn, 1) := by decide +kernel
theorem dX5_daily_0 : decode cX5_daily 0 = .ok (.iload_n 1, 1) := by decide +kernel
theorem dX5_daily_1 : decode cX5_daily 1 = .ok (.i2l, 1) := by decide +kernel
theorem dX5_daily_2 : decode cX5_daily 2 = .ok (.ldc2_w 161, 3) := by decide +kernel
theorem dX5_daily_5 : decode cX5_daily 5 = .ok (.aload_n 0, 1) := by decide +kernel
theorem dX5_daily_6 : decode cX5_daily 6 = .ok (.invokevirtual 76, 3) := by decide +kernel
theorem dX5_daily_9 : decode cX5_daily 9 = .ok (.iconst 1, 1) := by decide +kernel
theorem dX5_daily_10 : decode cX5_daily 10 = .ok (.isub, 1) := by decide +kernel
theorem dX5_daily_11 : decode cX5_daily 11 = .ok (.i2l, 1) := by decide +kernel
theorem dX5_daily_12 : decode cX5_daily 12 = .ok (.invokestatic 80, 3) := by decide +kernel
theorem dX5_daily_15 : decode cX5_daily 15 = .ok (.ifCond .eq 13, 3) := by decide +kernel
theorem dX5_daily_18 : decode cX5_daily 18 = .ok (.iload_n 2, 1) := by decide +kernel
theorem dX5_daily_19 : decode cX5_daily 19 = .ok (.i2l, 1) := by decide +kernel
theorem dX5_daily_20 : decode cX5_daily 20 = .ok (.lconst 0, 1) := by decide +kernel
theorem dX5_daily_21 : decode cX5_daily 21 = .ok (.lconst 1, 1) := by decide +kernel
theorem dX5_daily_22 : decode cX5_daily 22 = .ok (.invokestatic 80, 3) := by decide +kernel
theorem dX5_daily_25 : decode cX5_daily 25 = .ok (.ifCond .ne 10, 3) := by decide +kernel
theorem dX5_daily_28 : decode cX5_daily 28 = .ok (.aload_n 0, 1) := by decide +kernel
theorem dX5_daily_29 : decode cX5_daily 29 = .ok (.bipush (-2), 2) := by decide +kernel
theorem dX5_daily_31 : decode cX5_daily 31 = .ok (.invokevirtual 94, 3) := by decide +kernel
theorem dX5_daily_34 : decode cX5_daily 34 = .ok (.ireturn, 1) := by decide +kernel
theorem dX5_daily_35 : decode cX5_daily 35 = .ok (.aload_n 0, 1) := by decide +kernel
theorem dX5_daily_36 : decode cX5_daily 36 = .ok (.aload_n 0, 1) := by decide +kernel
theorem dX5_daily_37 : decode cX5_daily 37 = .ok (.getfield 7, 3) := by decide +kernel
theorem dX5_daily_40 : decode cX5_daily 40 = .ok (.aload_n 0, 1) := by decide +kernel
theorem dX5_daily_41 : decode cX5_daily 41 = .ok (.getfield 7, 3) := by decide +kernel
theorem dX5_daily_44 : decode cX5_daily 44 = .ok (.bipush 24, 2) := by decide +kernel
theorem dX5_daily_46 : decode cX5_daily 46 = .ok (.iaload, 1) := by decide +kernel
theorem dX5_daily_47 : decode cX5_daily 47 = .ok (.iconst 0, 1) := by decide +kernel
theorem dX5_daily_48 : decode cX5_daily 48 = .ok (.invokevirtual 135, 3) := by decide +kernel
theorem dX5_daily_51 : decode cX5_daily 51 = .ok (.iload_n 1, 1) := by decide +kernel
theorem dX5_daily_52 : decode cX5_daily 52 = .ok (.iconst (-1), 1) := by decide +kernel
theorem dX5_daily_53 : decode cX5_daily 53 = .ok (.if_icmp .ne 23, 3) := by decide +kernel
theorem dX5_daily_56 : decode cX5_daily 56 = .ok (.aload_n 0, 1) := by decide +kernel
theorem dX5_daily_57 : decode cX5_daily 57 = .ok (.iload_n 2, 1) := by decide +kernel
theorem dX5_daily_58 : decode cX5_daily 58 = .ok (.ifCond .ne 10, 3) := by decide +kernel
theorem dX5_daily_61 : decode cX5_daily 61 = .ok (.aload_n 0, 1) := by decide +kernel
theorem dX5_daily_62 : decode cX5_daily 62 = .ok (.getfield 33, 3) := by decide +kernel
theorem dX5_daily_65 : decode cX5_daily 65 = .ok (.goto 7, 3) := by decide +kernel
theorem dX5_daily_68 : decode cX5_daily 68 = .ok (.aload_n 0, 1) := by decide +kernel
theorem dX5_daily_69 : decode cX5_daily 69 = .ok (.getfield 36, 3) := by decide +kernel
theorem dX5_daily_72 : decode cX5_daily 72 = .ok (.invokevirtual 163, 3) := by decide +kernel
theorem dX5_daily_75 : decode cX5_daily 75 = .ok (.ireturn, 1) := by decide +kernel
theorem dX5_daily_76 : decode cX5_daily 76 = .ok (.iload_n 2, 1) := by decide +kernel
theorem dX5_daily_77 : decode cX5_daily 77 = .ok (.ifCond .ne 12, 3) := by decide +kernel
theorem dX5_daily_80 : decode cX5_daily 80 = .ok (.aload_n 0, 1) := by decide +kernel
theorem dX5_daily_81 : decode cX5_daily 81 = .ok (.getfield 33, 3) := by decide +kernel
theorem dX5_daily_84 : decode cX5_daily 84 = .ok (.iload_n 1, 1) := by decide +kernel
theorem dX5_daily_85 : decode cX5_daily 85 = .ok (.iaload, 1) := by decide +kernel
theorem dX5_daily_86 : decode cX5_daily 86 = .ok (.goto 9, 3) := by decide +kernel
theorem dX5_daily_89 : decode cX5_daily 89 = .ok (.aload_n 0, 1) := by decide +kernel
theorem dX5_daily_90 : decode cX5_daily 90 = .ok (.getfield 36, 3) := by decide +kernel
theorem dX5_daily_93 : decode cX5_daily 93 = .ok (.iload_n 1, 1) := by decide +kernel
theorem dX5_daily_94 : decode cX5_daily 94 = .ok (.iaload, 1) := by decide +kernel
theorem dX5_daily_95 : decode cX5_daily 95 = .ok (.ireturn, 1) := by decide +kernel
theorem dX5_layOwn_0 : decode cX5_layOwn 0 = .ok (.iconst 0, 1) := by decide +kernel
theorem dX5_layOwn_1 : decode cX5_layOwn 1 = .ok (.istore_n 2, 1) := by decide +kernel
theorem dX5_layOwn_2 : decode cX5_layOwn 2 = .ok (.iload_n 2, 1) := by decide +kernel
theorem dX5_layOwn_3 : decode cX5_layOwn 3 = .ok (.aload_n 0, 1) := by decide +kernel
theorem dX5_layOwn_4 : decode cX5_layOwn 4 = .ok (.invokevirtual 76, 3) := by decide +kernel
theorem dX5_layOwn_7 : decode cX5_layOwn 7 = .ok (.if_icmp .ge 30, 3) := by decide +kernel
theorem dX5_layOwn_10 : decode cX5_layOwn 10 = .ok (.aload_n 0, 1) := by decide +kernel
theorem dX5_layOwn_11 : decode cX5_layOwn 11 = .ok (.getfield 39, 3) := by decide +kernel
theorem dX5_layOwn_14 : decode cX5_layOwn 14 = .ok (.iload_n 2, 1) := by decide +kernel
theorem dX5_layOwn_15 : decode cX5_layOwn 15 = .ok (.iload_n 1, 1) := by decide +kernel
theorem dX5_layOwn_16 : decode cX5_layOwn 16 = .ok (.iconst 3, 1) := by decide +kernel
theorem dX5_layOwn_17 : decode cX5_layOwn 17 = .ok (.aload_n 0, 1) := by decide +kernel
theorem dX5_layOwn_18 : decode cX5_layOwn 18 = .ok (.invokevirtual 76, 3) := by decide +kernel
theorem dX5_layOwn_21 : decode cX5_layOwn 21 = .ok (.iconst 1, 1) := by decide +kernel
theorem dX5_layOwn_22 : decode cX5_layOwn 22 = .ok (.isub, 1) := by decide +kernel
theorem dX5_layOwn_23 : decode cX5_layOwn 23 = .ok (.iload_n 2, 1) := by decide +kernel
theorem dX5_layOwn_24 : decode cX5_layOwn 24 = .ok (.isub, 1) := by decide +kernel
theorem dX5_layOwn_25 : decode cX5_layOwn 25 = .ok (.imul, 1) := by decide +kernel
theorem dX5_layOwn_26 : decode cX5_layOwn 26 = .ok (.ishr, 1) := by decide +kernel
theorem dX5_layOwn_27 : decode cX5_layOwn 27 = .ok (.bipush 7, 2) := by decide +kernel
theorem dX5_layOwn_29 : decode cX5_layOwn 29 = .ok (.iand, 1) := by decide +kernel
theorem dX5_layOwn_30 : decode cX5_layOwn 30 = .ok (.iastore, 1) := by decide +kernel
theorem dX5_layOwn_31 : decode cX5_layOwn 31 = .ok (.iinc 2 1, 3) := by decide +kernel
theorem dX5_layOwn_34 : decode cX5_layOwn 34 = .ok (.goto (-32), 3) := by decide +kernel
theorem dX5_layOwn_37 : decode cX5_layOwn 37 = .ok (.iconst 0, 1) := by decide +kernel
theorem dX5_layOwn_38 : decode cX5_layOwn 38 = .ok (.istore_n 2, 1) := by decide +kernel
theorem dX5_layOwn_39 : decode cX5_layOwn 39 = .ok (.iload_n 2, 1) := by decide +kernel
theorem dX5_layOwn_40 : decode cX5_layOwn 40 = .ok (.bipush 8, 2) := by decide +kernel
theorem dX5_layOwn_42 : decode cX5_layOwn 42 = .ok (.if_icmp .ge 121, 3) := by decide +kernel
theorem dX5_layOwn_45 : decode cX5_layOwn 45 = .ok (.iconst 0, 1) := by decide +kernel
theorem dX5_layOwn_46 : decode cX5_layOwn 46 = .ok (.istore_n 3, 1) := by decide +kernel
theorem dX5_layOwn_47 : decode cX5_layOwn 47 = .ok (.iconst 0, 1) := by decide +kernel
theorem dX5_layOwn_48 : decode cX5_layOwn 48 = .ok (.istore 4, 2) := by decide +kernel
theorem dX5_layOwn_50 : decode cX5_layOwn 50 = .ok (.iload 4, 2) := by decide +kernel
theorem dX5_layOwn_52 : decode cX5_layOwn 52 = .ok (.aload_n 0, 1) := by decide +kernel
theorem dX5_layOwn_53 : decode cX5_layOwn 53 = .ok (.invokevirtual 76, 3) := by decide +kernel
theorem dX5_layOwn_56 : decode cX5_layOwn 56 = .ok (.if_icmp .ge 31, 3) := by decide +kernel
theorem dX5_layOwn_59 : decode cX5_layOwn 59 = .ok (.iload_n 3, 1) := by decide +kernel
theorem dX5_layOwn_60 : decode cX5_layOwn 60 = .ok (.aload_n 0, 1) := by decide +kernel
theorem dX5_layOwn_61 : decode cX5_layOwn 61 = .ok (.getfield 39, 3) := by decide +kernel
theorem dX5_layOwn_64 : decode cX5_layOwn 64 = .ok (.iload 4, 2) := by decide +kernel
theorem dX5_layOwn_66 : decode cX5_layOwn 66 = .ok (.iaload, 1) := by decide +kernel
theorem dX5_layOwn_67 : decode cX5_layOwn 67 = .ok (.iload_n 2, 1) := by decide +kernel
theorem dX5_layOwn_68 : decode cX5_layOwn 68 = .ok (.if_icmp .ne 10, 3) := by decide +kernel
theorem dX5_layOwn_71 : decode cX5_layOwn 71 = .ok (.iconst 1, 1) := by decide +kernel
theorem dX5_layOwn_72 : decode cX5_layOwn 72 = .ok (.iload 4, 2) := by decide +kernel
theorem dX5_layOwn_74 : decode cX5_layOwn 74 = .ok (.ishl, 1) := by decide +kernel
theorem dX5_layOwn_75 : decode cX5_layOwn 75 = .ok (.goto 4, 3) := by decide +kernel
theorem dX5_layOwn_78 : decode cX5_layOwn 78 = .ok (.iconst 0, 1) := by decide +kernel
theorem dX5_layOwn_79 : decode cX5_layOwn 79 = .ok (.ior, 1) := by decide +kernel
theorem dX5_layOwn_80 : decode cX5_layOwn 80 = .ok (.istore_n 3, 1) := by decide +kernel
theorem dX5_layOwn_81 : decode cX5_layOwn 81 = .ok (.iinc 4 1, 3) := by decide +kernel
theorem dX5_layOwn_84 : decode cX5_layOwn 84 = .ok (.goto (-34), 3) := by decide +kernel
theorem dX5_layOwn_87 : decode cX5_layOwn 87 = .ok (.aload_n 0, 1) := by decide +kernel
theorem dX5_layOwn_88 : decode cX5_layOwn 88 = .ok (.aload_n 0, 1) := by decide +kernel
theorem dX5_layOwn_89 : decode cX5_layOwn 89 = .ok (.getfield 7, 3) := by decide +kernel
theorem dX5_layOwn_92 : decode cX5_layOwn 92 = .ok (.iload_n 2, 1) := by decide +kernel
theorem dX5_layOwn_93 : decode cX5_layOwn 93 = .ok (.aload_n 0, 1) := by decide +kernel
theorem dX5_layOwn_94 : decode cX5_layOwn 94 = .ok (.getfield 7, 3) := by decide +kernel
theorem dX5_layOwn_97 : decode cX5_layOwn 97 = .ok (.bipush 24, 2) := by decide +kernel
theorem dX5_layOwn_99 : decode cX5_layOwn 99 = .ok (.iaload, 1) := by decide +kernel
theorem dX5_layOwn_100 : decode cX5_layOwn 100 = .ok (.iload_n 3, 1) := by decide +kernel
theorem dX5_layOwn_101 : decode cX5_layOwn 101 = .ok (.invokevirtual 128, 3) := by decide +kernel
theorem dX5_layOwn_104 : decode cX5_layOwn 104 = .ok (.iconst 0, 1) := by decide +kernel
theorem dX5_layOwn_105 : decode cX5_layOwn 105 = .ok (.istore 4, 2) := by decide +kernel
theorem dX5_layOwn_107 : decode cX5_layOwn 107 = .ok (.iload 4, 2) := by decide +kernel
theorem dX5_layOwn_109 : decode cX5_layOwn 109 = .ok (.aload_n 0, 1) := by decide +kernel
theorem dX5_layOwn_110 : decode cX5_layOwn 110 = .ok (.invokevirtual 76, 3) := by decide +kernel
theorem dX5_layOwn_113 : decode cX5_layOwn 113 = .ok (.if_icmp .ge 44, 3) := by decide +kernel
theorem dX5_layOwn_116 : decode cX5_layOwn 116 = .ok (.aload_n 0, 1) := by decide +kernel
theorem dX5_layOwn_117 : decode cX5_layOwn 117 = .ok (.getfield 42, 3) := by decide +kernel
theorem dX5_layOwn_120 : decode cX5_layOwn 120 = .ok (.iload 4, 2) := by decide +kernel
theorem dX5_layOwn_122 : decode cX5_layOwn 122 = .ok (.aload_n 0, 1) := by decide +kernel
theorem dX5_layOwn_123 : decode cX5_layOwn 123 = .ok (.getfield 39, 3) := by decide +kernel
theorem dX5_layOwn_126 : decode cX5_layOwn 126 = .ok (.iload 4, 2) := by decide +kernel
theorem dX5_layOwn_128 : decode cX5_layOwn 128 = .ok (.iaload, 1) := by decide +kernel
theorem dX5_layOwn_129 : decode cX5_layOwn 129 = .ok (.iload_n 2, 1) := by decide +kernel
theorem dX5_layOwn_130 : decode cX5_layOwn 130 = .ok (.if_icmp .ne 13, 3) := by decide +kernel
theorem dX5_layOwn_133 : decode cX5_layOwn 133 = .ok (.aload_n 0, 1) := by decide +kernel
theorem dX5_layOwn_134 : decode cX5_layOwn 134 = .ok (.getfield 27, 3) := by decide +kernel
theorem dX5_layOwn_137 : decode cX5_layOwn 137 = .ok (.iload 4, 2) := by decide +kernel
theorem dX5_layOwn_139 : decode cX5_layOwn 139 = .ok (.iaload, 1) := by decide +kernel
theorem dX5_layOwn_140 : decode cX5_layOwn 140 = .ok (.goto 10, 3) := by decide +kernel
theorem dX5_layOwn_143 : decode cX5_layOwn 143 = .ok (.aload_n 0, 1) := by decide +kernel
theorem dX5_layOwn_144 : decode cX5_layOwn 144 = .ok (.getfield 42, 3) := by decide +kernel
theorem dX5_layOwn_147 : decode cX5_layOwn 147 = .ok (.iload 4, 2) := by decide +kernel
theorem dX5_layOwn_149 : decode cX5_layOwn 149 = .ok (.iaload, 1) := by decide +kernel
theorem dX5_layOwn_150 : decode cX5_layOwn 150 = .ok (.iastore, 1) := by decide +kernel
theorem dX5_layOwn_151 : decode cX5_layOwn 151 = .ok (.iinc 4 1, 3) := by decide +kernel
theorem dX5_layOwn_154 : decode cX5_layOwn 154 = .ok (.goto (-47), 3) := by decide +kernel
theorem dX5_layOwn_157 : decode cX5_layOwn 157 = .ok (.iinc 2 1, 3) := by decide +kernel
theorem dX5_layOwn_160 : decode cX5_layOwn 160 = .ok (.goto (-121), 3) := by decide +kernel
theorem dX5_layOwn_163 : decode cX5_layOwn 163 = .ok (.return_, 1) := by decide +kernel
theorem dX5_turns_0 : decode cX5_turns 0 = .ok (.iload_n 1, 1) := by decide +kernel
theorem dX5_turns_1 : decode cX5_turns 1 = .ok (.i2l, 1) := by decide +kernel
theorem dX5_turns_2 : decode cX5_turns 2 = .ok (.ldc2_w 161, 3) := by decide +kernel
theorem dX5_turns_5 : decode cX5_turns 5 = .ok (.aload_n 0, 1) := by decide +kernel
theorem dX5_turns_6 : decode cX5_turns 6 = .ok (.invokevirtual 76, 3) := by decide +kernel
theorem dX5_turns_9 : decode cX5_turns 9 = .ok (.iconst 1, 1) := by decide +kernel
theorem dX5_turns_10 : decode cX5_turns 10 = .ok (.isub, 1) := by decide +kernel
theorem dX5_turns_11 : decode cX5_turns 11 = .ok (.i2l, 1) := by decide +kernel
theorem dX5_turns_12 : decode cX5_turns 12 = .ok (.invokestatic 80, 3) := by decide +kernel
theorem dX5_turns_15 : decode cX5_turns 15 = .ok (.ifCond .ne 10, 3) := by decide +kernel
theorem dX5_turns_18 : decode cX5_turns 18 = .ok (.aload_n 0, 1) := by decide +kernel
theorem dX5_turns_19 : decode cX5_turns 19 = .ok (.bipush (-10), 2) := by decide +kernel
theorem dX5_turns_21 : decode cX5_turns 21 = .ok (.invokevirtual 94, 3) := by decide +kernel
theorem dX5_turns_24 : decode cX5_turns 24 = .ok (.ireturn, 1) := by decide +kernel
theorem dX5_turns_25 : decode cX5_turns 25 = .ok (.iconst (-1), 1) := by decide +kernel
theorem dX5_turns_26 : decode cX5_turns 26 = .ok (.istore_n 2, 1) := by decide +kernel
theorem dX5_turns_27 : decode cX5_turns 27 = .ok (.iconst 0, 1) := by decide +kernel
theorem dX5_turns_28 : decode cX5_turns 28 = .ok (.istore_n 3, 1) := by decide +kernel
theorem dX5_turns_29 : decode cX5_turns 29 = .ok (.iload_n 3, 1) := by decide +kernel
theorem dX5_turns_30 : decode cX5_turns 30 = .ok (.iconst 1, 1) := by decide +kernel
theorem dX5_turns_31 : decode cX5_turns 31 = .ok (.iconst 3, 1) := by decide +kernel
theorem dX5_turns_32 : decode cX5_turns 32 = .ok (.aload_n 0, 1) := by decide +kernel
theorem dX5_turns_33 : decode cX5_turns 33 = .ok (.invokevirtual 76, 3) := by decide +kernel
theorem dX5_turns_36 : decode cX5_turns 36 = .ok (.imul, 1) := by decide +kernel
theorem dX5_turns_37 : decode cX5_turns 37 = .ok (.ishl, 1) := by decide +kernel
theorem dX5_turns_38 : decode cX5_turns 38 = .ok (.if_icmp .ge 75, 3) := by decide +kernel
theorem dX5_turns_41 : decode cX5_turns 41 = .ok (.aload_n 0, 1) := by decide +kernel
theorem dX5_turns_42 : decode cX5_turns 42 = .ok (.iload_n 3, 1) := by decide +kernel
theorem dX5_turns_43 : decode cX5_turns 43 = .ok (.invokevirtual 166, 3) := by decide +kernel
theorem dX5_turns_46 : decode cX5_turns 46 = .ok (.aload_n 0, 1) := by decide +kernel
theorem dX5_turns_47 : decode cX5_turns 47 = .ok (.aload_n 0, 1) := by decide +kernel
theorem dX5_turns_48 : decode cX5_turns 48 = .ok (.getfield 42, 3) := by decide +kernel
theorem dX5_turns_51 : decode cX5_turns 51 = .ok (.invokevirtual 163, 3) := by decide +kernel
theorem dX5_turns_54 : decode cX5_turns 54 = .ok (.istore 4, 2) := by decide +kernel
theorem dX5_turns_56 : decode cX5_turns 56 = .ok (.iconst 0, 1) := by decide +kernel
theorem dX5_turns_57 : decode cX5_turns 57 = .ok (.istore 5, 2) := by decide +kernel
theorem dX5_turns_59 : decode cX5_turns 59 = .ok (.iload 5, 2) := by decide +kernel
theorem dX5_turns_61 : decode cX5_turns 61 = .ok (.aload_n 0, 1) := by decide +kernel
theorem dX5_turns_62 : decode cX5_turns 62 = .ok (.invokevirtual 76, 3) := by decide +kernel
theorem dX5_turns_65 : decode cX5_turns 65 = .ok (.if_icmp .ge 29, 3) := by decide +kernel
theorem dX5_turns_68 : decode cX5_turns 68 = .ok (.iload 4, 2) := by decide +kernel
theorem dX5_turns_70 : decode cX5_turns 70 = .ok (.iload_n 2, 1) := by decide +kernel
theorem dX5_turns_71 : decode cX5_turns 71 = .ok (.if_icmp .le 23, 3) := by decide +kernel
theorem dX5_turns_74 : decode cX5_turns 74 = .ok (.aload_n 0, 1) := by decide +kernel
theorem dX5_turns_75 : decode cX5_turns 75 = .ok (.getfield 45, 3) := by decide +kernel
theorem dX5_turns_78 : decode cX5_turns 78 = .ok (.iload 5, 2) := by decide +kernel
theorem dX5_turns_80 : decode cX5_turns 80 = .ok (.aload_n 0, 1) := by decide +kernel
theorem dX5_turns_81 : decode cX5_turns 81 = .ok (.getfield 39, 3) := by decide +kernel
theorem dX5_turns_84 : decode cX5_turns 84 = .ok (.iload 5, 2) := by decide +kernel
theorem dX5_turns_86 : decode cX5_turns 86 = .ok (.iaload, 1) := by decide +kernel
theorem dX5_turns_87 : decode cX5_turns 87 = .ok (.iastore, 1) := by decide +kernel
theorem dX5_turns_88 : decode cX5_turns 88 = .ok (.iinc 5 1, 3) := by decide +kernel
theorem dX5_turns_91 : decode cX5_turns 91 = .ok (.goto (-32), 3) := by decide +kernel
theorem dX5_turns_94 : decode cX5_turns 94 = .ok (.iload 4, 2) := by decide +kernel
theorem dX5_turns_96 : decode cX5_turns 96 = .ok (.iload_n 2, 1) := by decide +kernel
theorem dX5_turns_97 : decode cX5_turns 97 = .ok (.if_icmp .le 8, 3) := by decide +kernel
theorem dX5_turns_100 : decode cX5_turns 100 = .ok (.iload 4, 2) := by decide +kernel
theorem dX5_turns_102 : decode cX5_turns 102 = .ok (.goto 4, 3) := by decide +kernel
theorem dX5_turns_105 : decode cX5_turns 105 = .ok (.iload_n 2, 1) := by decide +kernel
theorem dX5_turns_106 : decode cX5_turns 106 = .ok (.istore_n 2, 1) := by decide +kernel
theorem dX5_turns_107 : decode cX5_turns 107 = .ok (.iinc 3 1, 3) := by decide +kernel
theorem dX5_turns_110 : decode cX5_turns 110 = .ok (.goto (-81), 3) := by decide +kernel
theorem dX5_turns_113 : decode cX5_turns 113 = .ok (.iload_n 1, 1) := by decide +kernel
theorem dX5_turns_114 : decode cX5_turns 114 = .ok (.iconst (-1), 1) := by decide +kernel
theorem dX5_turns_115 : decode cX5_turns 115 = .ok (.if_icmp .ne 7, 3) := by decide +kernel
theorem dX5_turns_118 : decode cX5_turns 118 = .ok (.iload_n 2, 1) := by decide +kernel
theorem dX5_turns_119 : decode cX5_turns 119 = .ok (.goto 9, 3) := by decide +kernel
theorem dX5_turns_122 : decode cX5_turns 122 = .ok (.aload_n 0, 1) := by decide +kernel
theorem dX5_turns_123 : decode cX5_turns 123 = .ok (.getfield 45, 3) := by decide +kernel
theorem dX5_turns_126 : decode cX5_turns 126 = .ok (.iload_n 1, 1) := by decide +kernel
theorem dX5_turns_127 : decode cX5_turns 127 = .ok (.iaload, 1) := by decide +kernel
theorem dX5_turns_128 : decode cX5_turns 128 = .ok (.ireturn, 1) := by decide +kernel
theorem dX5_bestAlone_0 : decode cX5_bestAlone 0 = .ok (.iconst 0, 1) := by decide +kernel
theorem dX5_bestAlone_1 : decode cX5_bestAlone 1 = .ok (.istore_n 2, 1) := by decide +kernel
theorem dX5_bestAlone_2 : decode cX5_bestAlone 2 = .ok (.iconst 0, 1) := by decide +kernel
theorem dX5_bestAlone_3 : decode cX5_bestAlone 3 = .ok (.istore_n 3, 1) := by decide +kernel
theorem dX5_bestAlone_4 : decode cX5_bestAlone 4 = .ok (.iload_n 3, 1) := by decide +kernel
theorem dX5_bestAlone_5 : decode cX5_bestAlone 5 = .ok (.bipush 8, 2) := by decide +kernel
theorem dX5_bestAlone_7 : decode cX5_bestAlone 7 = .ok (.if_icmp .ge 53, 3) := by decide +kernel
theorem dX5_bestAlone_10 : decode cX5_bestAlone 10 = .ok (.aload_n 0, 1) := by decide +kernel
theorem dX5_bestAlone_11 : decode cX5_bestAlone 11 = .ok (.getfield 7, 3) := by decide +kernel
theorem dX5_bestAlone_14 : decode cX5_bestAlone 14 = .ok (.bipush 26, 2) := by decide +kernel
theorem dX5_bestAlone_16 : decode cX5_bestAlone 16 = .ok (.iload_n 1, 1) := by decide +kernel
theorem dX5_bestAlone_17 : decode cX5_bestAlone 17 = .ok (.iadd, 1) := by decide +kernel
theorem dX5_bestAlone_18 : decode cX5_bestAlone 18 = .ok (.iaload, 1) := by decide +kernel
theorem dX5_bestAlone_19 : decode cX5_bestAlone 19 = .ok (.iload_n 3, 1) := by decide +kernel
theorem dX5_bestAlone_20 : decode cX5_bestAlone 20 = .ok (.aload_n 0, 1) := by decide +kernel
theorem dX5_bestAlone_21 : decode cX5_bestAlone 21 = .ok (.getfield 7, 3) := by decide +kernel
theorem dX5_bestAlone_24 : decode cX5_bestAlone 24 = .ok (.bipush 19, 2) := by decide +kernel
theorem dX5_bestAlone_26 : decode cX5_bestAlone 26 = .ok (.iload_n 1, 1) := by decide +kernel
theorem dX5_bestAlone_27 : decode cX5_bestAlone 27 = .ok (.iadd, 1) := by decide +kernel
theorem dX5_bestAlone_28 : decode cX5_bestAlone 28 = .ok (.iaload, 1) := by decide +kernel
theorem dX5_bestAlone_29 : decode cX5_bestAlone 29 = .ok (.aload_n 0, 1) := by decide +kernel
theorem dX5_bestAlone_30 : decode cX5_bestAlone 30 = .ok (.getfield 7, 3) := by decide +kernel
theorem dX5_bestAlone_33 : decode cX5_bestAlone 33 = .ok (.bipush 24, 2) := by decide +kernel
theorem dX5_bestAlone_35 : decode cX5_bestAlone 35 = .ok (.iaload, 1) := by decide +kernel
theorem dX5_bestAlone_36 : decode cX5_bestAlone 36 = .ok (.invokestatic 120, 3) := by decide +kernel
theorem dX5_bestAlone_39 : decode cX5_bestAlone 39 = .ok (.istore 4, 2) := by decide +kernel
theorem dX5_bestAlone_41 : decode cX5_bestAlone 41 = .ok (.iload 4, 2) := by decide +kernel
theorem dX5_bestAlone_43 : decode cX5_bestAlone 43 = .ok (.iload_n 2, 1) := by decide +kernel
theorem dX5_bestAlone_44 : decode cX5_bestAlone 44 = .ok (.if_icmp .le 8, 3) := by decide +kernel
theorem dX5_bestAlone_47 : decode cX5_bestAlone 47 = .ok (.iload 4, 2) := by decide +kernel
theorem dX5_bestAlone_49 : decode cX5_bestAlone 49 = .ok (.goto 4, 3) := by decide +kernel
theorem dX5_bestAlone_52 : decode cX5_bestAlone 52 = .ok (.iload_n 2, 1) := by decide +kernel
theorem dX5_bestAlone_53 : decode cX5_bestAlone 53 = .ok (.istore_n 2, 1) := by decide +kernel
theorem dX5_bestAlone_54 : decode cX5_bestAlone 54 = .ok (.iinc 3 1, 3) := by decide +kernel
theorem dX5_bestAlone_57 : decode cX5_bestAlone 57 = .ok (.goto (-53), 3) := by decide +kernel
theorem dX5_bestAlone_60 : decode cX5_bestAlone 60 = .ok (.iload_n 2, 1) := by decide +kernel
theorem dX5_bestAlone_61 : decode cX5_bestAlone 61 = .ok (.ireturn, 1) := by decide +kernel
theorem dX5_dueIfFair_0 : decode cX5_dueIfFair 0 = .ok (.iconst 0, 1) := by decide +kernel
theorem dX5_dueIfFair_1 : decode cX5_dueIfFair 1 = .ok (.istore_n 1, 1) := by decide +kernel
theorem dX5_dueIfFair_2 : decode cX5_dueIfFair 2 = .ok (.iconst 0, 1) := by decide +kernel
theorem dX5_dueIfFair_3 : decode cX5_dueIfFair 3 = .ok (.istore_n 2, 1) := by decide +kernel
theorem dX5_dueIfFair_4 : decode cX5_dueIfFair 4 = .ok (.iload_n 2, 1) := by decide +kernel
theorem dX5_dueIfFair_5 : decode cX5_dueIfFair 5 = .ok (.aload_n 0, 1) := by decide +kernel
theorem dX5_dueIfFair_6 : decode cX5_dueIfFair 6 = .ok (.invokevirtual 76, 3) := by decide +kernel
theorem dX5_dueIfFair_9 : decode cX5_dueIfFair 9 = .ok (.if_icmp .ge 50, 3) := by decide +kernel
theorem dX5_dueIfFair_12 : decode cX5_dueIfFair 12 = .ok (.iload_n 1, 1) := by decide +kernel
theorem dX5_dueIfFair_13 : decode cX5_dueIfFair 13 = .ok (.aload_n 0, 1) := by decide +kernel
theorem dX5_dueIfFair_14 : decode cX5_dueIfFair 14 = .ok (.getfield 42, 3) := by decide +kernel
theorem dX5_dueIfFair_17 : decode cX5_dueIfFair 17 = .ok (.iload_n 2, 1) := by decide +kernel
theorem dX5_dueIfFair_18 : decode cX5_dueIfFair 18 = .ok (.iaload, 1) := by decide +kernel
theorem dX5_dueIfFair_19 : decode cX5_dueIfFair 19 = .ok (.aload_n 0, 1) := by decide +kernel
theorem dX5_dueIfFair_20 : decode cX5_dueIfFair 20 = .ok (.getfield 48, 3) := by decide +kernel
theorem dX5_dueIfFair_23 : decode cX5_dueIfFair 23 = .ok (.iload_n 2, 1) := by decide +kernel
theorem dX5_dueIfFair_24 : decode cX5_dueIfFair 24 = .ok (.iaload, 1) := by decide +kernel
theorem dX5_dueIfFair_25 : decode cX5_dueIfFair 25 = .ok (.if_icmp .ne 24, 3) := by decide +kernel
theorem dX5_dueIfFair_28 : decode cX5_dueIfFair 28 = .ok (.aload_n 0, 1) := by decide +kernel
theorem dX5_dueIfFair_29 : decode cX5_dueIfFair 29 = .ok (.getfield 7, 3) := by decide +kernel
theorem dX5_dueIfFair_32 : decode cX5_dueIfFair 32 = .ok (.bipush 26, 2) := by decide +kernel
theorem dX5_dueIfFair_34 : decode cX5_dueIfFair 34 = .ok (.iload_n 2, 1) := by decide +kernel
theorem dX5_dueIfFair_35 : decode cX5_dueIfFair 35 = .ok (.iadd, 1) := by decide +kernel
theorem dX5_dueIfFair_36 : decode cX5_dueIfFair 36 = .ok (.iaload, 1) := by decide +kernel
theorem dX5_dueIfFair_37 : decode cX5_dueIfFair 37 = .ok (.aload_n 0, 1) := by decide +kernel
theorem dX5_dueIfFair_38 : decode cX5_dueIfFair 38 = .ok (.getfield 42, 3) := by decide +kernel
theorem dX5_dueIfFair_41 : decode cX5_dueIfFair 41 = .ok (.iload_n 2, 1) := by decide +kernel
theorem dX5_dueIfFair_42 : decode cX5_dueIfFair 42 = .ok (.iaload, 1) := by decide +kernel
theorem dX5_dueIfFair_43 : decode cX5_dueIfFair 43 = .ok (.invokestatic 131, 3) := by decide +kernel
theorem dX5_dueIfFair_46 : decode cX5_dueIfFair 46 = .ok (.goto 5, 3) := by decide +kernel
theorem dX5_dueIfFair_49 : decode cX5_dueIfFair 49 = .ok (.ldc 170, 2) := by decide +kernel
theorem dX5_dueIfFair_51 : decode cX5_dueIfFair 51 = .ok (.iadd, 1) := by decide +kernel
theorem dX5_dueIfFair_52 : decode cX5_dueIfFair 52 = .ok (.istore_n 1, 1) := by decide +kernel
theorem dX5_dueIfFair_53 : decode cX5_dueIfFair 53 = .ok (.iinc 2 1, 3) := by decide +kernel
theorem dX5_dueIfFair_56 : decode cX5_dueIfFair 56 = .ok (.goto (-52), 3) := by decide +kernel
theorem dX5_dueIfFair_59 : decode cX5_dueIfFair 59 = .ok (.iload_n 1, 1) := by decide +kernel
theorem dX5_dueIfFair_60 : decode cX5_dueIfFair 60 = .ok (.ldc 170, 2) := by decide +kernel
theorem dX5_dueIfFair_62 : decode cX5_dueIfFair 62 = .ok (.if_icmp .ge 7, 3) := by decide +kernel
theorem dX5_dueIfFair_65 : decode cX5_dueIfFair 65 = .ok (.iload_n 1, 1) := by decide +kernel
theorem dX5_dueIfFair_66 : decode cX5_dueIfFair 66 = .ok (.goto 5, 3) := by decide +kernel
theorem dX5_dueIfFair_69 : decode cX5_dueIfFair 69 = .ok (.ldc 170, 2) := by decide +kernel
theorem dX5_dueIfFair_71 : decode cX5_dueIfFair 71 = .ok (.ireturn, 1) := by decide +kernel
theorem dX5_fair_0 : decode cX5_fair 0 = .ok (.iload_n 1, 1) := by decide +kernel
theorem dX5_fair_1 : decode cX5_fair 1 = .ok (.i2l, 1) := by decide +kernel
theorem dX5_fair_2 : decode cX5_fair 2 = .ok (.ldc2_w 161, 3) := by decide +kernel
theorem dX5_fair_5 : decode cX5_fair 5 = .ok (.aload_n 0, 1) := by decide +kernel
theorem dX5_fair_6 : decode cX5_fair 6 = .ok (.invokevirtual 76, 3) := by decide +kernel
theorem dX5_fair_9 : decode cX5_fair 9 = .ok (.iconst 1, 1) := by decide +kernel
theorem dX5_fair_10 : decode cX5_fair 10 = .ok (.isub, 1) := by decide +kernel
theorem dX5_fair_11 : decode cX5_fair 11 = .ok (.i2l, 1) := by decide +kernel
theorem dX5_fair_12 : decode cX5_fair 12 = .ok (.invokestatic 80, 3) := by decide +kernel
theorem dX5_fair_15 : decode cX5_fair 15 = .ok (.ifCond .ne 10, 3) := by decide +kernel
theorem dX5_fair_18 : decode cX5_fair 18 = .ok (.aload_n 0, 1) := by decide +kernel
theorem dX5_fair_19 : decode cX5_fair 19 = .ok (.bipush (-10), 2) := by decide +kernel
theorem dX5_fair_21 : decode cX5_fair 21 = .ok (.invokevirtual 94, 3) := by decide +kernel
theorem dX5_fair_24 : decode cX5_fair 24 = .ok (.ireturn, 1) := by decide +kernel
theorem dX5_fair_25 : decode cX5_fair 25 = .ok (.ldc 170, 2) := by decide +kernel
theorem dX5_fair_27 : decode cX5_fair 27 = .ok (.istore_n 2, 1) := by decide +kernel
theorem dX5_fair_28 : decode cX5_fair 28 = .ok (.iconst 0, 1) := by decide +kernel
theorem dX5_fair_29 : decode cX5_fair 29 = .ok (.istore_n 3, 1) := by decide +kernel
theorem dX5_fair_30 : decode cX5_fair 30 = .ok (.iload_n 3, 1) := by decide +kernel
theorem dX5_fair_31 : decode cX5_fair 31 = .ok (.aload_n 0, 1) := by decide +kernel
theorem dX5_fair_32 : decode cX5_fair 32 = .ok (.invokevirtual 76, 3) := by decide +kernel
theorem dX5_fair_35 : decode cX5_fair 35 = .ok (.if_icmp .ge 20, 3) := by decide +kernel
theorem dX5_fair_38 : decode cX5_fair 38 = .ok (.aload_n 0, 1) := by decide +kernel
theorem dX5_fair_39 : decode cX5_fair 39 = .ok (.getfield 48, 3) := by decide +kernel
theorem dX5_fair_42 : decode cX5_fair 42 = .ok (.iload_n 3, 1) := by decide +kernel
theorem dX5_fair_43 : decode cX5_fair 43 = .ok (.aload_n 0, 1) := by decide +kernel
theorem dX5_fair_44 : decode cX5_fair 44 = .ok (.iload_n 3, 1) := by decide +kernel
theorem dX5_fair_45 : decode cX5_fair 45 = .ok (.invokevirtual 171, 3) := by decide +kernel
theorem dX5_fair_48 : decode cX5_fair 48 = .ok (.iastore, 1) := by decide +kernel
theorem dX5_fair_49 : decode cX5_fair 49 = .ok (.iinc 3 1, 3) := by decide +kernel
theorem dX5_fair_52 : decode cX5_fair 52 = .ok (.goto (-22), 3) := by decide +kernel
theorem dX5_fair_55 : decode cX5_fair 55 = .ok (.iconst 0, 1) := by decide +kernel
theorem dX5_fair_56 : decode cX5_fair 56 = .ok (.istore_n 3, 1) := by decide +kernel
theorem dX5_fair_57 : decode cX5_fair 57 = .ok (.iload_n 3, 1) := by decide +kernel
theorem dX5_fair_58 : decode cX5_fair 58 = .ok (.iconst 1, 1) := by decide +kernel
theorem dX5_fair_59 : decode cX5_fair 59 = .ok (.iconst 3, 1) := by decide +kernel
theorem dX5_fair_60 : decode cX5_fair 60 = .ok (.aload_n 0, 1) := by decide +kernel
theorem dX5_fair_61 : decode cX5_fair 61 = .ok (.invokevirtual 76, 3) := by decide +kernel
theorem dX5_fair_64 : decode cX5_fair 64 = .ok (.imul, 1) := by decide +kernel
theorem dX5_fair_65 : decode cX5_fair 65 = .ok (.ishl, 1) := by decide +kernel
theorem dX5_fair_66 : decode cX5_fair 66 = .ok (.if_icmp .ge 71, 3) := by decide +kernel
theorem dX5_fair_69 : decode cX5_fair 69 = .ok (.aload_n 0, 1) := by decide +kernel
theorem dX5_fair_70 : decode cX5_fair 70 = .ok (.iload_n 3, 1) := by decide +kernel
theorem dX5_fair_71 : decode cX5_fair 71 = .ok (.invokevirtual 166, 3) := by decide +kernel
theorem dX5_fair_74 : decode cX5_fair 74 = .ok (.aload_n 0, 1) := by decide +kernel
theorem dX5_fair_75 : decode cX5_fair 75 = .ok (.invokevirtual 174, 3) := by decide +kernel
theorem dX5_fair_78 : decode cX5_fair 78 = .ok (.istore 4, 2) := by decide +kernel
theorem dX5_fair_80 : decode cX5_fair 80 = .ok (.iconst 0, 1) := by decide +kernel
theorem dX5_fair_81 : decode cX5_fair 81 = .ok (.istore 5, 2) := by decide +kernel
theorem dX5_fair_83 : decode cX5_fair 83 = .ok (.iload 5, 2) := by decide +kernel
theorem dX5_fair_85 : decode cX5_fair 85 = .ok (.aload_n 0, 1) := by decide +kernel
theorem dX5_fair_86 : decode cX5_fair 86 = .ok (.invokevirtual 76, 3) := by decide +kernel
theorem dX5_fair_89 : decode cX5_fair 89 = .ok (.if_icmp .ge 29, 3) := by decide +kernel
theorem dX5_fair_92 : decode cX5_fair 92 = .ok (.iload 4, 2) := by decide +kernel
theorem dX5_fair_94 : decode cX5_fair 94 = .ok (.iload_n 2, 1) := by decide +kernel
theorem dX5_fair_95 : decode cX5_fair 95 = .ok (.if_icmp .ge 23, 3) := by decide +kernel
theorem dX5_fair_98 : decode cX5_fair 98 = .ok (.aload_n 0, 1) := by decide +kernel
theorem dX5_fair_99 : decode cX5_fair 99 = .ok (.getfield 45, 3) := by decide +kernel
theorem dX5_fair_102 : decode cX5_fair 102 = .ok (.iload 5, 2) := by decide +kernel
theorem dX5_fair_104 : decode cX5_fair 104 = .ok (.aload_n 0, 1) := by decide +kernel
theorem dX5_fair_105 : decode cX5_fair 105 = .ok (.getfield 39, 3) := by decide +kernel
theorem dX5_fair_108 : decode cX5_fair 108 = .ok (.iload 5, 2) := by decide +kernel
theorem dX5_fair_110 : decode cX5_fair 110 = .ok (.iaload, 1) := by decide +kernel
theorem dX5_fair_111 : decode cX5_fair 111 = .ok (.iastore, 1) := by decide +kernel
theorem dX5_fair_112 : decode cX5_fair 112 = .ok (.iinc 5 1, 3) := by decide +kernel
theorem dX5_fair_115 : decode cX5_fair 115 = .ok (.goto (-32), 3) := by decide +kernel
theorem dX5_fair_118 : decode cX5_fair 118 = .ok (.iload 4, 2) := by decide +kernel
theorem dX5_fair_120 : decode cX5_fair 120 = .ok (.iload_n 2, 1) := by decide +kernel
theorem dX5_fair_121 : decode cX5_fair 121 = .ok (.if_icmp .ge 8, 3) := by decide +kernel
theorem dX5_fair_124 : decode cX5_fair 124 = .ok (.iload 4, 2) := by decide +kernel
theorem dX5_fair_126 : decode cX5_fair 126 = .ok (.goto 4, 3) := by decide +kernel
theorem dX5_fair_129 : decode cX5_fair 129 = .ok (.iload_n 2, 1) := by decide +kernel
theorem dX5_fair_130 : decode cX5_fair 130 = .ok (.istore_n 2, 1) := by decide +kernel
theorem dX5_fair_131 : decode cX5_fair 131 = .ok (.iinc 3 1, 3) := by decide +kernel
theorem dX5_fair_134 : decode cX5_fair 134 = .ok (.goto (-77), 3) := by decide +kernel
theorem dX5_fair_137 : decode cX5_fair 137 = .ok (.iload_n 2, 1) := by decide +kernel
theorem dX5_fair_138 : decode cX5_fair 138 = .ok (.ldc 170, 2) := by decide +kernel
theorem dX5_fair_140 : decode cX5_fair 140 = .ok (.if_icmp .ne 7, 3) := by decide +kernel
theorem dX5_fair_143 : decode cX5_fair 143 = .ok (.iconst (-1), 1) := by decide +kernel
theorem dX5_fair_144 : decode cX5_fair 144 = .ok (.goto 18, 3) := by decide +kernel
theorem dX5_fair_147 : decode cX5_fair 147 = .ok (.iload_n 1, 1) := by decide +kernel
theorem dX5_fair_148 : decode cX5_fair 148 = .ok (.iconst (-1), 1) := by decide +kernel
theorem dX5_fair_149 : decode cX5_fair 149 = .ok (.if_icmp .ne 7, 3) := by decide +kernel
theorem dX5_fair_152 : decode cX5_fair 152 = .ok (.iload_n 2, 1) := by decide +kernel
theorem dX5_fair_153 : decode cX5_fair 153 = .ok (.goto 9, 3) := by decide +kernel
theorem dX5_fair_156 : decode cX5_fair 156 = .ok (.aload_n 0, 1) := by decide +kernel
theorem dX5_fair_157 : decode cX5_fair 157 = .ok (.getfield 45, 3) := by decide +kernel
theorem dX5_fair_160 : decode cX5_fair 160 = .ok (.iload_n 1, 1) := by decide +kernel
theorem dX5_fair_161 : decode cX5_fair 161 = .ok (.iaload, 1) := by decide +kernel
theorem dX5_fair_162 : decode cX5_fair 162 = .ok (.ireturn, 1) := by decide +kernel
theorem dX5_least_0 : decode cX5_least 0 = .ok (.iconst 0, 1) := by decide +kernel
theorem dX5_least_1 : decode cX5_least 1 = .ok (.istore_n 1, 1) := by decide +kernel
theorem dX5_least_2 : decode cX5_least 2 = .ok (.iload_n 1, 1) := by decide +kernel
theorem dX5_least_3 : decode cX5_least 3 = .ok (.bipush 8, 2) := by decide +kernel
theorem dX5_least_5 : decode cX5_least 5 = .ok (.if_icmp .ge 61, 3) := by decide +kernel
theorem dX5_least_8 : decode cX5_least 8 = .ok (.aload_n 0, 1) := by decide +kernel
theorem dX5_least_9 : decode cX5_least 9 = .ok (.aload_n 0, 1) := by decide +kernel
theorem dX5_least_10 : decode cX5_least 10 = .ok (.getfield 7, 3) := by decide +kernel
theorem dX5_least_13 : decode cX5_least 13 = .ok (.iload_n 1, 1) := by decide +kernel
theorem dX5_least_14 : decode cX5_least 14 = .ok (.sipush 300, 3) := by decide +kernel
theorem dX5_least_17 : decode cX5_least 17 = .ok (.aload_n 0, 1) := by decide +kernel
theorem dX5_least_18 : decode cX5_least 18 = .ok (.getfield 7, 3) := by decide +kernel
theorem dX5_least_21 : decode cX5_least 21 = .ok (.iload_n 1, 1) := by decide +kernel
theorem dX5_least_22 : decode cX5_least 22 = .ok (.invokestatic 124, 3) := by decide +kernel
theorem dX5_least_25 : decode cX5_least 25 = .ok (.invokevirtual 128, 3) := by decide +kernel
theorem dX5_least_28 : decode cX5_least 28 = .ok (.iconst 0, 1) := by decide +kernel
theorem dX5_least_29 : decode cX5_least 29 = .ok (.istore_n 2, 1) := by decide +kernel
theorem dX5_least_30 : decode cX5_least 30 = .ok (.iload_n 2, 1) := by decide +kernel
theorem dX5_least_31 : decode cX5_least 31 = .ok (.aload_n 0, 1) := by decide +kernel
theorem dX5_least_32 : decode cX5_least 32 = .ok (.invokevirtual 76, 3) := by decide +kernel
theorem dX5_least_35 : decode cX5_least 35 = .ok (.if_icmp .ge 25, 3) := by decide +kernel
theorem dX5_least_38 : decode cX5_least 38 = .ok (.aload_n 0, 1) := by decide +kernel
theorem dX5_least_39 : decode cX5_least 39 = .ok (.getfield 51, 3) := by decide +kernel
theorem dX5_least_42 : decode cX5_least 42 = .ok (.iconst 5, 1) := by decide +kernel
theorem dX5_least_43 : decode cX5_least 43 = .ok (.iload_n 1, 1) := by decide +kernel
theorem dX5_least_44 : decode cX5_least 44 = .ok (.imul, 1) := by decide +kernel
theorem dX5_least_45 : decode cX5_least 45 = .ok (.iload_n 2, 1) := by decide +kernel
theorem dX5_least_46 : decode cX5_least 46 = .ok (.iadd, 1) := by decide +kernel
theorem dX5_least_47 : decode cX5_least 47 = .ok (.aload_n 0, 1) := by decide +kernel
theorem dX5_least_48 : decode cX5_least 48 = .ok (.getfield 27, 3) := by decide +kernel
theorem dX5_least_51 : decode cX5_least 51 = .ok (.iload_n 2, 1) := by decide +kernel
theorem dX5_least_52 : decode cX5_least 52 = .ok (.iaload, 1) := by decide +kernel
theorem dX5_least_53 : decode cX5_least 53 = .ok (.iastore, 1) := by decide +kernel
theorem dX5_least_54 : decode cX5_least 54 = .ok (.iinc 2 1, 3) := by decide +kernel
theorem dX5_least_57 : decode cX5_least 57 = .ok (.goto (-27), 3) := by decide +kernel
theorem dX5_least_60 : decode cX5_least 60 = .ok (.iinc 1 1, 3) := by decide +kernel
theorem dX5_least_63 : decode cX5_least 63 = .ok (.goto (-61), 3) := by decide +kernel
theorem dX5_least_66 : decode cX5_least 66 = .ok (.iconst 0, 1) := by decide +kernel
theorem dX5_least_67 : decode cX5_least 67 = .ok (.istore_n 1, 1) := by decide +kernel
theorem dX5_least_68 : decode cX5_least 68 = .ok (.iload_n 1, 1) := by decide +kernel
theorem dX5_least_69 : decode cX5_least 69 = .ok (.bipush 100, 2) := by decide +kernel
theorem dX5_least_71 : decode cX5_least 71 = .ok (.if_icmp .ge 98, 3) := by decide +kernel
theorem dX5_least_74 : decode cX5_least 74 = .ok (.iconst 1, 1) := by decide +kernel
theorem dX5_least_75 : decode cX5_least 75 = .ok (.istore_n 2, 1) := by decide +kernel
theorem dX5_least_76 : decode cX5_least 76 = .ok (.iconst 0, 1) := by decide +kernel
theorem dX5_least_77 : decode cX5_least 77 = .ok (.istore_n 3, 1) := by decide +kernel
theorem dX5_least_78 : decode cX5_least 78 = .ok (.iload_n 3, 1) := by decide +kernel
theorem dX5_least_79 : decode cX5_least 79 = .ok (.bipush 8, 2) := by decide +kernel
theorem dX5_least_81 : decode cX5_least 81 = .ok (.if_icmp .ge 76, 3) := by decide +kernel
theorem dX5_least_84 : decode cX5_least 84 = .ok (.aload_n 0, 1) := by decide +kernel
theorem dX5_least_85 : decode cX5_least 85 = .ok (.aload_n 0, 1) := by decide +kernel
theorem dX5_least_86 : decode cX5_least 86 = .ok (.getfield 7, 3) := by decide +kernel
theorem dX5_least_89 : decode cX5_least 89 = .ok (.iload_n 3, 1) := by decide +kernel
theorem dX5_least_90 : decode cX5_least 90 = .ok (.iload_n 1, 1) := by decide +kernel
theorem dX5_least_91 : decode cX5_least 91 = .ok (.aload_n 0, 1) := by decide +kernel
theorem dX5_least_92 : decode cX5_least 92 = .ok (.getfield 7, 3) := by decide +kernel
theorem dX5_least_95 : decode cX5_least 95 = .ok (.iload_n 3, 1) := by decide +kernel
theorem dX5_least_96 : decode cX5_least 96 = .ok (.invokestatic 124, 3) := by decide +kernel
theorem dX5_least_99 : decode cX5_least 99 = .ok (.invokevirtual 128, 3) := by decide +kernel
theorem dX5_least_102 : decode cX5_least 102 = .ok (.iconst 0, 1) := by decide +kernel
theorem dX5_least_103 : decode cX5_least 103 = .ok (.istore 4, 2) := by decide +kernel
theorem dX5_least_105 : decode cX5_least 105 = .ok (.iload 4, 2) := by decide +kernel
theorem dX5_least_107 : decode cX5_least 107 = .ok (.aload_n 0, 1) := by decide +kernel
theorem dX5_least_108 : decode cX5_least 108 = .ok (.invokevirtual 76, 3) := by decide +kernel
theorem dX5_least_111 : decode cX5_least 111 = .ok (.if_icmp .ge 40, 3) := by decide +kernel
theorem dX5_least_114 : decode cX5_least 114 = .ok (.iload_n 2, 1) := by decide +kernel
theorem dX5_least_115 : decode cX5_least 115 = .ok (.ifCond .eq 28, 3) := by decide +kernel
theorem dX5_least_118 : decode cX5_least 118 = .ok (.aload_n 0, 1) := by decide +kernel
theorem dX5_least_119 : decode cX5_least 119 = .ok (.getfield 27, 3) := by decide +kernel
theorem dX5_least_122 : decode cX5_least 122 = .ok (.iload 4, 2) := by decide +kernel
theorem dX5_least_124 : decode cX5_least 124 = .ok (.iaload, 1) := by decide +kernel
theorem dX5_least_125 : decode cX5_least 125 = .ok (.aload_n 0, 1) := by decide +kernel
theorem dX5_least_126 : decode cX5_least 126 = .ok (.getfield 51, 3) := by decide +kernel
theorem dX5_least_129 : decode cX5_least 129 = .ok (.iconst 5, 1) := by decide +kernel
theorem dX5_least_130 : decode cX5_least 130 = .ok (.iload_n 3, 1) := by decide +kernel
theorem dX5_least_131 : decode cX5_least 131 = .ok (.imul, 1) := by decide +kernel
theorem dX5_least_132 : decode cX5_least 132 = .ok (.iload 4, 2) := by decide +kernel
theorem dX5_least_134 : decode cX5_least 134 = .ok (.iadd, 1) := by decide +kernel
theorem dX5_least_135 : decode cX5_least 135 = .ok (.iaload, 1) := by decide +kernel
theorem dX5_least_136 : decode cX5_least 136 = .ok (.if_icmp .ne 7, 3) := by decide +kernel
theorem dX5_least_139 : decode cX5_least 139 = .ok (.iconst 1, 1) := by decide +kernel
theorem dX5_least_140 : decode cX5_least 140 = .ok (.goto 4, 3) := by decide +kernel
theorem dX5_least_143 : decode cX5_least 143 = .ok (.iconst 0, 1) := by decide +kernel
theorem dX5_least_144 : decode cX5_least 144 = .ok (.istore_n 2, 1) := by decide +kernel
theorem dX5_least_145 : decode cX5_least 145 = .ok (.iinc 4 1, 3) := by decide +kernel
theorem dX5_least_148 : decode cX5_least 148 = .ok (.goto (-43), 3) := by decide +kernel
theorem dX5_least_151 : decode cX5_least 151 = .ok (.iinc 3 1, 3) := by decide +kernel
theorem dX5_least_154 : decode cX5_least 154 = .ok (.goto (-76), 3) := by decide +kernel
theorem dX5_least_157 : decode cX5_least 157 = .ok (.iload_n 2, 1) := by decide +kernel
theorem dX5_least_158 : decode cX5_least 158 = .ok (.ifCond .eq 5, 3) := by decide +kernel
theorem dX5_least_161 : decode cX5_least 161 = .ok (.iload_n 1, 1) := by decide +kernel
theorem dX5_least_162 : decode cX5_least 162 = .ok (.ireturn, 1) := by decide +kernel
theorem dX5_least_163 : decode cX5_least 163 = .ok (.iinc 1 1, 3) := by decide +kernel
theorem dX5_least_166 : decode cX5_least 166 = .ok (.goto (-98), 3) := by decide +kernel
theorem dX5_least_169 : decode cX5_least 169 = .ok (.iconst (-1), 1) := by decide +kernel
theorem dX5_least_170 : decode cX5_least 170 = .ok (.ireturn, 1) := by decide +kernel
theorem dX5_shut_0 : decode cX5_shut 0 = .ok (.aload_n 0, 1) := by decide +kernel
theorem dX5_shut_1 : decode cX5_shut 1 = .ok (.iload_n 1, 1) := by decide +kernel
theorem dX5_shut_2 : decode cX5_shut 2 = .ok (.invokevirtual 148, 3) := by decide +kernel
theorem dX5_shut_5 : decode cX5_shut 5 = .ok (.ifCond .ne 10, 3) := by decide +kernel
theorem dX5_shut_8 : decode cX5_shut 8 = .ok (.aload_n 0, 1) := by decide +kernel
theorem dX5_shut_9 : decode cX5_shut 9 = .ok (.bipush (-2), 2) := by decide +kernel
theorem dX5_shut_11 : decode cX5_shut 11 = .ok (.invokevirtual 94, 3) := by decide +kernel
theorem dX5_shut_14 : decode cX5_shut 14 = .ok (.ireturn, 1) := by decide +kernel
theorem dX5_shut_15 : decode cX5_shut 15 = .ok (.aload_n 0, 1) := by decide +kernel
theorem dX5_shut_16 : decode cX5_shut 16 = .ok (.aload_n 0, 1) := by decide +kernel
theorem dX5_shut_17 : decode cX5_shut 17 = .ok (.getfield 7, 3) := by decide +kernel
theorem dX5_shut_20 : decode cX5_shut 20 = .ok (.aload_n 0, 1) := by decide +kernel
theorem dX5_shut_21 : decode cX5_shut 21 = .ok (.getfield 7, 3) := by decide +kernel
theorem dX5_shut_24 : decode cX5_shut 24 = .ok (.bipush 24, 2) := by decide +kernel
theorem dX5_shut_26 : decode cX5_shut 26 = .ok (.iaload, 1) := by decide +kernel
theorem dX5_shut_27 : decode cX5_shut 27 = .ok (.iconst 0, 1) := by decide +kernel
theorem dX5_shut_28 : decode cX5_shut 28 = .ok (.invokevirtual 135, 3) := by decide +kernel
theorem dX5_shut_31 : decode cX5_shut 31 = .ok (.iconst (-1), 1) := by decide +kernel
theorem dX5_shut_32 : decode cX5_shut 32 = .ok (.istore_n 2, 1) := by decide +kernel
theorem dX5_shut_33 : decode cX5_shut 33 = .ok (.aload_n 0, 1) := by decide +kernel
theorem dX5_shut_34 : decode cX5_shut 34 = .ok (.getfield 33, 3) := by decide +kernel
theorem dX5_shut_37 : decode cX5_shut 37 = .ok (.iload_n 1, 1) := by decide +kernel
theorem dX5_shut_38 : decode cX5_shut 38 = .ok (.iaload, 1) := by decide +kernel
theorem dX5_shut_39 : decode cX5_shut 39 = .ok (.istore_n 3, 1) := by decide +kernel
theorem dX5_shut_40 : decode cX5_shut 40 = .ok (.iconst 0, 1) := by decide +kernel
theorem dX5_shut_41 : decode cX5_shut 41 = .ok (.istore 4, 2) := by decide +kernel
theorem dX5_shut_43 : decode cX5_shut 43 = .ok (.iload 4, 2) := by decide +kernel
theorem dX5_shut_45 : decode cX5_shut 45 = .ok (.aload_n 0, 1) := by decide +kernel
theorem dX5_shut_46 : decode cX5_shut 46 = .ok (.invokevirtual 76, 3) := by decide +kernel
theorem dX5_shut_49 : decode cX5_shut 49 = .ok (.if_icmp .ge 72, 3) := by decide +kernel
theorem dX5_shut_52 : decode cX5_shut 52 = .ok (.iload 4, 2) := by decide +kernel
theorem dX5_shut_54 : decode cX5_shut 54 = .ok (.iload_n 1, 1) := by decide +kernel
theorem dX5_shut_55 : decode cX5_shut 55 = .ok (.if_icmp .eq 60, 3) := by decide +kernel
theorem dX5_shut_58 : decode cX5_shut 58 = .ok (.aload_n 0, 1) := by decide +kernel
theorem dX5_shut_59 : decode cX5_shut 59 = .ok (.aload_n 0, 1) := by decide +kernel
theorem dX5_shut_60 : decode cX5_shut 60 = .ok (.getfield 7, 3) := by decide +kernel
theorem dX5_shut_63 : decode cX5_shut 63 = .ok (.aload_n 0, 1) := by decide +kernel
theorem dX5_shut_64 : decode cX5_shut 64 = .ok (.getfield 7, 3) := by decide +kernel
theorem dX5_shut_67 : decode cX5_shut 67 = .ok (.bipush 24, 2) := by decide +kernel
theorem dX5_shut_69 : decode cX5_shut 69 = .ok (.iaload, 1) := by decide +kernel
theorem dX5_shut_70 : decode cX5_shut 70 = .ok (.iconst 1, 1) := by decide +kernel
theorem dX5_shut_71 : decode cX5_shut 71 = .ok (.iload 4, 2) := by decide +kernel
theorem dX5_shut_73 : decode cX5_shut 73 = .ok (.ishl, 1) := by decide +kernel
theorem dX5_shut_74 : decode cX5_shut 74 = .ok (.invokevirtual 135, 3) := by decide +kernel
theorem dX5_shut_77 : decode cX5_shut 77 = .ok (.aload_n 0, 1) := by decide +kernel
theorem dX5_shut_78 : decode cX5_shut 78 = .ok (.getfield 33, 3) := by decide +kernel
theorem dX5_shut_81 : decode cX5_shut 81 = .ok (.iload_n 1, 1) := by decide +kernel
theorem dX5_shut_82 : decode cX5_shut 82 = .ok (.iaload, 1) := by decide +kernel
theorem dX5_shut_83 : decode cX5_shut 83 = .ok (.iload_n 3, 1) := by decide +kernel
theorem dX5_shut_84 : decode cX5_shut 84 = .ok (.if_icmp .le 8, 3) := by decide +kernel
theorem dX5_shut_87 : decode cX5_shut 87 = .ok (.iload 4, 2) := by decide +kernel
theorem dX5_shut_89 : decode cX5_shut 89 = .ok (.goto 4, 3) := by decide +kernel
theorem dX5_shut_92 : decode cX5_shut 92 = .ok (.iload_n 2, 1) := by decide +kernel
theorem dX5_shut_93 : decode cX5_shut 93 = .ok (.istore_n 2, 1) := by decide +kernel
theorem dX5_shut_94 : decode cX5_shut 94 = .ok (.aload_n 0, 1) := by decide +kernel
theorem dX5_shut_95 : decode cX5_shut 95 = .ok (.getfield 33, 3) := by decide +kernel
theorem dX5_shut_98 : decode cX5_shut 98 = .ok (.iload_n 1, 1) := by decide +kernel
theorem dX5_shut_99 : decode cX5_shut 99 = .ok (.iaload, 1) := by decide +kernel
theorem dX5_shut_100 : decode cX5_shut 100 = .ok (.iload_n 3, 1) := by decide +kernel
theorem dX5_shut_101 : decode cX5_shut 101 = .ok (.if_icmp .le 12, 3) := by decide +kernel
theorem dX5_shut_104 : decode cX5_shut 104 = .ok (.aload_n 0, 1) := by decide +kernel
theorem dX5_shut_105 : decode cX5_shut 105 = .ok (.getfield 33, 3) := by decide +kernel
theorem dX5_shut_108 : decode cX5_shut 108 = .ok (.iload_n 1, 1) := by decide +kernel
theorem dX5_shut_109 : decode cX5_shut 109 = .ok (.iaload, 1) := by decide +kernel
theorem dX5_shut_110 : decode cX5_shut 110 = .ok (.goto 4, 3) := by decide +kernel
theorem dX5_shut_113 : decode cX5_shut 113 = .ok (.iload_n 3, 1) := by decide +kernel
theorem dX5_shut_114 : decode cX5_shut 114 = .ok (.istore_n 3, 1) := by decide +kernel
theorem dX5_shut_115 : decode cX5_shut 115 = .ok (.iinc 4 1, 3) := by decide +kernel
theorem dX5_shut_118 : decode cX5_shut 118 = .ok (.goto (-75), 3) := by decide +kernel
theorem dX5_shut_121 : decode cX5_shut 121 = .ok (.iload_n 2, 1) := by decide +kernel
theorem dX5_shut_122 : decode cX5_shut 122 = .ok (.ireturn, 1) := by decide +kernel
theorem dX5_left_0 : decode cX5_left 0 = .ok (.iload_n 1, 1) := by decide +kernel
theorem dX5_left_1 : decode cX5_left 1 = .ok (.invokestatic 156, 3) := by decide +kernel
theorem dX5_left_4 : decode cX5_left 4 = .ok (.ifCond .eq 10, 3) := by decide +kernel
theorem dX5_left_7 : decode cX5_left 7 = .ok (.iload_n 2, 1) := by decide +kernel
theorem dX5_left_8 : decode cX5_left 8 = .ok (.invokestatic 90, 3) := by decide +kernel
theorem dX5_left_11 : decode cX5_left 11 = .ok (.ifCond .ne 10, 3) := by decide +kernel
theorem dX5_left_14 : decode cX5_left 14 = .ok (.aload_n 0, 1) := by decide +kernel
theorem dX5_left_15 : decode cX5_left 15 = .ok (.bipush (-2), 2) := by decide +kernel
theorem dX5_left_17 : decode cX5_left 17 = .ok (.invokevirtual 94, 3) := by decide +kernel
theorem dX5_left_20 : decode cX5_left 20 = .ok (.ireturn, 1) := by decide +kernel
theorem dX5_left_21 : decode cX5_left 21 = .ok (.aload_n 0, 1) := by decide +kernel
theorem dX5_left_22 : decode cX5_left 22 = .ok (.getfield 7, 3) := by decide +kernel
theorem dX5_left_25 : decode cX5_left 25 = .ok (.iconst 1, 1) := by decide +kernel
theorem dX5_left_26 : decode cX5_left 26 = .ok (.iaload, 1) := by decide +kernel
theorem dX5_left_27 : decode cX5_left 27 = .ok (.iconst 4, 1) := by decide +kernel
theorem dX5_left_28 : decode cX5_left 28 = .ok (.if_icmp .ne 8, 3) := by decide +kernel
theorem dX5_left_31 : decode cX5_left 31 = .ok (.aload_n 0, 1) := by decide +kernel
theorem dX5_left_32 : decode cX5_left 32 = .ok (.invokevirtual 105, 3) := by decide +kernel
theorem dX5_left_35 : decode cX5_left 35 = .ok (.ireturn, 1) := by decide +kernel
theorem dX5_left_36 : decode cX5_left 36 = .ok (.aload_n 0, 1) := by decide +kernel
theorem dX5_left_37 : decode cX5_left 37 = .ok (.getfield 7, 3) := by decide +kernel
theorem dX5_left_40 : decode cX5_left 40 = .ok (.bipush 31, 2) := by decide +kernel
theorem dX5_left_42 : decode cX5_left 42 = .ok (.iconst 2, 1) := by decide +kernel
theorem dX5_left_43 : decode cX5_left 43 = .ok (.aload_n 0, 1) := by decide +kernel
theorem dX5_left_44 : decode cX5_left 44 = .ok (.getfield 7, 3) := by decide +kernel
theorem dX5_left_47 : decode cX5_left 47 = .ok (.iconst 1, 1) := by decide +kernel
theorem dX5_left_48 : decode cX5_left 48 = .ok (.iaload, 1) := by decide +kernel
theorem dX5_left_49 : decode cX5_left 49 = .ok (.imul, 1) := by decide +kernel
theorem dX5_left_50 : decode cX5_left 50 = .ok (.iadd, 1) := by decide +kernel
theorem dX5_left_51 : decode cX5_left 51 = .ok (.iload_n 1, 1) := by decide +kernel
theorem dX5_left_52 : decode cX5_left 52 = .ok (.iastore, 1) := by decide +kernel
theorem dX5_left_53 : decode cX5_left 53 = .ok (.aload_n 0, 1) := by decide +kernel
theorem dX5_left_54 : decode cX5_left 54 = .ok (.getfield 7, 3) := by decide +kernel
theorem dX5_left_57 : decode cX5_left 57 = .ok (.bipush 31, 2) := by decide +kernel
theorem dX5_left_59 : decode cX5_left 59 = .ok (.iconst 2, 1) := by decide +kernel
theorem dX5_left_60 : decode cX5_left 60 = .ok (.aload_n 0, 1) := by decide +kernel
theorem dX5_left_61 : decode cX5_left 61 = .ok (.getfield 7, 3) := by decide +kernel
theorem dX5_left_64 : decode cX5_left 64 = .ok (.iconst 1, 1) := by decide +kernel
theorem dX5_left_65 : decode cX5_left 65 = .ok (.iaload, 1) := by decide +kernel
theorem dX5_left_66 : decode cX5_left 66 = .ok (.imul, 1) := by decide +kernel
theorem dX5_left_67 : decode cX5_left 67 = .ok (.iadd, 1) := by decide +kernel
theorem dX5_left_68 : decode cX5_left 68 = .ok (.iconst 1, 1) := by decide +kernel
theorem dX5_left_69 : decode cX5_left 69 = .ok (.iadd, 1) := by decide +kernel
theorem dX5_left_70 : decode cX5_left 70 = .ok (.iload_n 2, 1) := by decide +kernel
theorem dX5_left_71 : decode cX5_left 71 = .ok (.iastore, 1) := by decide +kernel
theorem dX5_left_72 : decode cX5_left 72 = .ok (.aload_n 0, 1) := by decide +kernel
theorem dX5_left_73 : decode cX5_left 73 = .ok (.getfield 7, 3) := by decide +kernel
theorem dX5_left_76 : decode cX5_left 76 = .ok (.iconst 1, 1) := by decide +kernel
theorem dX5_left_77 : decode cX5_left 77 = .ok (.dup2, 1) := by decide +kernel
theorem dX5_left_78 : decode cX5_left 78 = .ok (.iaload, 1) := by decide +kernel
theorem dX5_left_79 : decode cX5_left 79 = .ok (.iconst 1, 1) := by decide +kernel
theorem dX5_left_80 : decode cX5_left 80 = .ok (.iadd, 1) := by decide +kernel
theorem dX5_left_81 : decode cX5_left 81 = .ok (.iastore, 1) := by decide +kernel
theorem dX5_left_82 : decode cX5_left 82 = .ok (.aload_n 0, 1) := by decide +kernel
theorem dX5_left_83 : decode cX5_left 83 = .ok (.getfield 7, 3) := by decide +kernel
theorem dX5_left_86 : decode cX5_left 86 = .ok (.iconst 1, 1) := by decide +kernel
theorem dX5_left_87 : decode cX5_left 87 = .ok (.iaload, 1) := by decide +kernel
theorem dX5_left_88 : decode cX5_left 88 = .ok (.ireturn, 1) := by decide +kernel
theorem dX5_mayHaveDrawn_0 : decode cX5_mayHaveDrawn 0 = .ok (.iconst 1, 1) := by decide +kernel
theorem dX5_mayHaveDrawn_1 : decode cX5_mayHaveDrawn 1 = .ok (.istore_n 2, 1) := by decide +kernel
theorem dX5_mayHaveDrawn_2 : decode cX5_mayHaveDrawn 2 = .ok (.iconst 0, 1) := by decide +kernel
theorem dX5_mayHaveDrawn_3 : decode cX5_mayHaveDrawn 3 = .ok (.istore_n 3, 1) := by decide +kernel
theorem dX5_mayHaveDrawn_4 : decode cX5_mayHaveDrawn 4 = .ok (.iload_n 3, 1) := by decide +kernel
theorem dX5_mayHaveDrawn_5 : decode cX5_mayHaveDrawn 5 = .ok (.aload_n 0, 1) := by decide +kernel
theorem dX5_mayHaveDrawn_6 : decode cX5_mayHaveDrawn 6 = .ok (.getfield 7, 3) := by decide +kernel
theorem dX5_mayHaveDrawn_9 : decode cX5_mayHaveDrawn 9 = .ok (.iconst 1, 1) := by decide +kernel
theorem dX5_mayHaveDrawn_10 : decode cX5_mayHaveDrawn 10 = .ok (.iaload, 1) := by decide +kernel
theorem dX5_mayHaveDrawn_11 : decode cX5_mayHaveDrawn 11 = .ok (.if_icmp .ge 66, 3) := by decide +kernel
theorem dX5_mayHaveDrawn_14 : decode cX5_mayHaveDrawn 14 = .ok (.aload_n 0, 1) := by decide +kernel
theorem dX5_mayHaveDrawn_15 : decode cX5_mayHaveDrawn 15 = .ok (.aload_n 0, 1) := by decide +kernel
theorem dX5_mayHaveDrawn_16 : decode cX5_mayHaveDrawn 16 = .ok (.getfield 7, 3) := by decide +kernel
theorem dX5_mayHaveDrawn_19 : decode cX5_mayHaveDrawn 19 = .ok (.aload_n 0, 1) := by decide +kernel
theorem dX5_mayHaveDrawn_20 : decode cX5_mayHaveDrawn 20 = .ok (.getfield 7, 3) := by decide +kernel
theorem dX5_mayHaveDrawn_23 : decode cX5_mayHaveDrawn 23 = .ok (.bipush 31, 2) := by decide +kernel
theorem dX5_mayHaveDrawn_25 : decode cX5_mayHaveDrawn 25 = .ok (.iconst 2, 1) := by decide +kernel
theorem dX5_mayHaveDrawn_26 : decode cX5_mayHaveDrawn 26 = .ok (.iload_n 3, 1) := by decide +kernel
theorem dX5_mayHaveDrawn_27 : decode cX5_mayHaveDrawn 27 = .ok (.imul, 1) := by decide +kernel
theorem dX5_mayHaveDrawn_28 : decode cX5_mayHaveDrawn 28 = .ok (.iadd, 1) := by decide +kernel
theorem dX5_mayHaveDrawn_29 : decode cX5_mayHaveDrawn 29 = .ok (.iaload, 1) := by decide +kernel
theorem dX5_mayHaveDrawn_30 : decode cX5_mayHaveDrawn 30 = .ok (.aload_n 0, 1) := by decide +kernel
theorem dX5_mayHaveDrawn_31 : decode cX5_mayHaveDrawn 31 = .ok (.getfield 7, 3) := by decide +kernel
theorem dX5_mayHaveDrawn_34 : decode cX5_mayHaveDrawn 34 = .ok (.bipush 24, 2) := by decide +kernel
theorem dX5_mayHaveDrawn_36 : decode cX5_mayHaveDrawn 36 = .ok (.iaload, 1) := by decide +kernel
theorem dX5_mayHaveDrawn_37 : decode cX5_mayHaveDrawn 37 = .ok (.iload_n 1, 1) := by decide +kernel
theorem dX5_mayHaveDrawn_38 : decode cX5_mayHaveDrawn 38 = .ok (.invokevirtual 128, 3) := by decide +kernel
theorem dX5_mayHaveDrawn_41 : decode cX5_mayHaveDrawn 41 = .ok (.iload_n 2, 1) := by decide +kernel
theorem dX5_mayHaveDrawn_42 : decode cX5_mayHaveDrawn 42 = .ok (.ifCond .eq 27, 3) := by decide +kernel
theorem dX5_mayHaveDrawn_45 : decode cX5_mayHaveDrawn 45 = .ok (.aload_n 0, 1) := by decide +kernel
theorem dX5_mayHaveDrawn_46 : decode cX5_mayHaveDrawn 46 = .ok (.getfield 112, 3) := by decide +kernel
theorem dX5_mayHaveDrawn_49 : decode cX5_mayHaveDrawn 49 = .ok (.aload_n 0, 1) := by decide +kernel
theorem dX5_mayHaveDrawn_50 : decode cX5_mayHaveDrawn 50 = .ok (.getfield 7, 3) := by decide +kernel
theorem dX5_mayHaveDrawn_53 : decode cX5_mayHaveDrawn 53 = .ok (.bipush 31, 2) := by decide +kernel
theorem dX5_mayHaveDrawn_55 : decode cX5_mayHaveDrawn 55 = .ok (.iconst 2, 1) := by decide +kernel
theorem dX5_mayHaveDrawn_56 : decode cX5_mayHaveDrawn 56 = .ok (.iload_n 3, 1) := by decide +kernel
theorem dX5_mayHaveDrawn_57 : decode cX5_mayHaveDrawn 57 = .ok (.imul, 1) := by decide +kernel
theorem dX5_mayHaveDrawn_58 : decode cX5_mayHaveDrawn 58 = .ok (.iadd, 1) := by decide +kernel
theorem dX5_mayHaveDrawn_59 : decode cX5_mayHaveDrawn 59 = .ok (.iconst 1, 1) := by decide +kernel
theorem dX5_mayHaveDrawn_60 : decode cX5_mayHaveDrawn 60 = .ok (.iadd, 1) := by decide +kernel
theorem dX5_mayHaveDrawn_61 : decode cX5_mayHaveDrawn 61 = .ok (.iaload, 1) := by decide +kernel
theorem dX5_mayHaveDrawn_62 : decode cX5_mayHaveDrawn 62 = .ok (.if_icmp .ne 7, 3) := by decide +kernel
theorem dX5_mayHaveDrawn_65 : decode cX5_mayHaveDrawn 65 = .ok (.iconst 1, 1) := by decide +kernel
theorem dX5_mayHaveDrawn_66 : decode cX5_mayHaveDrawn 66 = .ok (.goto 4, 3) := by decide +kernel
theorem dX5_mayHaveDrawn_69 : decode cX5_mayHaveDrawn 69 = .ok (.iconst 0, 1) := by decide +kernel
theorem dX5_mayHaveDrawn_70 : decode cX5_mayHaveDrawn 70 = .ok (.istore_n 2, 1) := by decide +kernel
theorem dX5_mayHaveDrawn_71 : decode cX5_mayHaveDrawn 71 = .ok (.iinc 3 1, 3) := by decide +kernel
theorem dX5_mayHaveDrawn_74 : decode cX5_mayHaveDrawn 74 = .ok (.goto (-70), 3) := by decide +kernel
theorem dX5_mayHaveDrawn_77 : decode cX5_mayHaveDrawn 77 = .ok (.iload_n 2, 1) := by decide +kernel
theorem dX5_mayHaveDrawn_78 : decode cX5_mayHaveDrawn 78 = .ok (.ireturn, 1) := by decide +kernel
theorem dX5_drew_0 : decode cX5_drew 0 = .ok (.iload_n 1, 1) := by decide +kernel
theorem dX5_drew_1 : decode cX5_drew 1 = .ok (.i2l, 1) := by decide +kernel
theorem dX5_drew_2 : decode cX5_drew 2 = .ok (.lconst 0, 1) := by decide +kernel
theorem dX5_drew_3 : decode cX5_drew 3 = .ok (.ldc2_w 159, 3) := by decide +kernel
theorem dX5_drew_6 : decode cX5_drew 6 = .ok (.invokestatic 80, 3) := by decide +kernel
theorem dX5_drew_9 : decode cX5_drew 9 = .ok (.ifCond .ne 10, 3) := by decide +kernel
theorem dX5_drew_12 : decode cX5_drew 12 = .ok (.aload_n 0, 1) := by decide +kernel
theorem dX5_drew_13 : decode cX5_drew 13 = .ok (.bipush (-2), 2) := by decide +kernel
theorem dX5_drew_15 : decode cX5_drew 15 = .ok (.invokevirtual 94, 3) := by decide +kernel
theorem dX5_drew_18 : decode cX5_drew 18 = .ok (.ireturn, 1) := by decide +kernel
theorem dX5_drew_19 : decode cX5_drew 19 = .ok (.iconst 0, 1) := by decide +kernel
theorem dX5_drew_20 : decode cX5_drew 20 = .ok (.istore_n 2, 1) := by decide +kernel
theorem dX5_drew_21 : decode cX5_drew 21 = .ok (.iconst 1, 1) := by decide +kernel
theorem dX5_drew_22 : decode cX5_drew 22 = .ok (.aload_n 0, 1) := by decide +kernel
theorem dX5_drew_23 : decode cX5_drew 23 = .ok (.invokevirtual 76, 3) := by decide +kernel
theorem dX5_drew_26 : decode cX5_drew 26 = .ok (.ishl, 1) := by decide +kernel
theorem dX5_drew_27 : decode cX5_drew 27 = .ok (.iconst 1, 1) := by decide +kernel
theorem dX5_drew_28 : decode cX5_drew 28 = .ok (.isub, 1) := by decide +kernel
theorem dX5_drew_29 : decode cX5_drew 29 = .ok (.istore_n 3, 1) := by decide +kernel
theorem dX5_drew_30 : decode cX5_drew 30 = .ok (.iconst 0, 1) := by decide +kernel
theorem dX5_drew_31 : decode cX5_drew 31 = .ok (.istore 4, 2) := by decide +kernel
theorem dX5_drew_33 : decode cX5_drew 33 = .ok (.iconst 0, 1) := by decide +kernel
theorem dX5_drew_34 : decode cX5_drew 34 = .ok (.istore 5, 2) := by decide +kernel
theorem dX5_drew_36 : decode cX5_drew 36 = .ok (.iload 5, 2) := by decide +kernel
theorem dX5_drew_38 : decode cX5_drew 38 = .ok (.iconst 1, 1) := by decide +kernel
theorem dX5_drew_39 : decode cX5_drew 39 = .ok (.aload_n 0, 1) := by decide +kernel
theorem dX5_drew_40 : decode cX5_drew 40 = .ok (.invokevirtual 76, 3) := by decide +kernel
theorem dX5_drew_43 : decode cX5_drew 43 = .ok (.ishl, 1) := by decide +kernel
theorem dX5_drew_44 : decode cX5_drew 44 = .ok (.if_icmp .ge 33, 3) := by decide +kernel
theorem dX5_drew_47 : decode cX5_drew 47 = .ok (.aload_n 0, 1) := by decide +kernel
theorem dX5_drew_48 : decode cX5_drew 48 = .ok (.iload 5, 2) := by decide +kernel
theorem dX5_drew_50 : decode cX5_drew 50 = .ok (.invokevirtual 177, 3) := by decide +kernel
theorem dX5_drew_53 : decode cX5_drew 53 = .ok (.ifCond .eq 18, 3) := by decide +kernel
theorem dX5_drew_56 : decode cX5_drew 56 = .ok (.iload_n 3, 1) := by decide +kernel
theorem dX5_drew_57 : decode cX5_drew 57 = .ok (.iload 5, 2) := by decide +kernel
theorem dX5_drew_59 : decode cX5_drew 59 = .ok (.iand, 1) := by decide +kernel
theorem dX5_drew_60 : decode cX5_drew 60 = .ok (.istore_n 3, 1) := by decide +kernel
theorem dX5_drew_61 : decode cX5_drew 61 = .ok (.iload 4, 2) := by decide +kernel
theorem dX5_drew_63 : decode cX5_drew 63 = .ok (.iload 5, 2) := by decide +kernel
theorem dX5_drew_65 : decode cX5_drew 65 = .ok (.ior, 1) := by decide +kernel
theorem dX5_drew_66 : decode cX5_drew 66 = .ok (.istore 4, 2) := by decide +kernel
theorem dX5_drew_68 : decode cX5_drew 68 = .ok (.iinc 2 1, 3) := by decide +kernel
theorem dX5_drew_71 : decode cX5_drew 71 = .ok (.iinc 5 1, 3) := by decide +kernel
theorem dX5_drew_74 : decode cX5_drew 74 = .ok (.goto (-38), 3) := by decide +kernel
theorem dX5_drew_77 : decode cX5_drew 77 = .ok (.iload_n 1, 1) := by decide +kernel
theorem dX5_drew_78 : decode cX5_drew 78 = .ok (.ifCond .ne 7, 3) := by decide +kernel
theorem dX5_drew_81 : decode cX5_drew 81 = .ok (.iload_n 2, 1) := by decide +kernel
theorem dX5_drew_82 : decode cX5_drew 82 = .ok (.goto 22, 3) := by decide +kernel
theorem dX5_drew_85 : decode cX5_drew 85 = .ok (.iload_n 1, 1) := by decide +kernel
theorem dX5_drew_86 : decode cX5_drew 86 = .ok (.iconst 2, 1) := by decide +kernel
theorem dX5_drew_87 : decode cX5_drew 87 = .ok (.if_icmp .ne 8, 3) := by decide +kernel
theorem dX5_drew_90 : decode cX5_drew 90 = .ok (.iload 4, 2) := by decide +kernel
theorem dX5_drew_92 : decode cX5_drew 92 = .ok (.goto 12, 3) := by decide +kernel
theorem dX5_drew_95 : decode cX5_drew 95 = .ok (.iload_n 2, 1) := by decide +kernel
theorem dX5_drew_96 : decode cX5_drew 96 = .ok (.ifCond .ne 7, 3) := by decide +kernel
theorem dX5_drew_99 : decode cX5_drew 99 = .ok (.iconst (-1), 1) := by decide +kernel
theorem dX5_drew_100 : decode cX5_drew 100 = .ok (.goto 4, 3) := by decide +kernel
theorem dX5_drew_103 : decode cX5_drew 103 = .ok (.iload_n 3, 1) := by decide +kernel
theorem dX5_drew_104 : decode cX5_drew 104 = .ok (.ireturn, 1) := by decide +kernel
theorem dX5_note_0 : decode cX5_note 0 = .ok (.aload_n 0, 1) := by decide +kernel
theorem dX5_note_1 : decode cX5_note 1 = .ok (.iload_n 1, 1) := by decide +kernel
theorem dX5_note_2 : decode cX5_note 2 = .ok (.invokevirtual 148, 3) := by decide +kernel
theorem dX5_note_5 : decode cX5_note 5 = .ok (.ifCond .eq 51, 3) := by decide +kernel
theorem dX5_note_8 : decode cX5_note 8 = .ok (.iload_n 2, 1) := by decide +kernel
theorem dX5_note_9 : decode cX5_note 9 = .ok (.invokestatic 100, 3) := by decide +kernel
theorem dX5_note_12 : decode cX5_note 12 = .ok (.ifCond .eq 44, 3) := by decide +kernel
theorem dX5_note_15 : decode cX5_note 15 = .ok (.iload_n 3, 1) := by decide +kernel
theorem dX5_note_16 : decode cX5_note 16 = .ok (.invokestatic 156, 3) := by decide +kernel
theorem dX5_note_19 : decode cX5_note 19 = .ok (.ifCond .eq 37, 3) := by decide +kernel
theorem dX5_note_22 : decode cX5_note 22 = .ok (.iload 4, 2) := by decide +kernel
theorem dX5_note_24 : decode cX5_note 24 = .ok (.invokestatic 90, 3) := by decide +kernel
theorem dX5_note_27 : decode cX5_note 27 = .ok (.ifCond .eq 29, 3) := by decide +kernel
theorem dX5_note_30 : decode cX5_note 30 = .ok (.iload 5, 2) := by decide +kernel
theorem dX5_note_32 : decode cX5_note 32 = .ok (.i2l, 1) := by decide +kernel
theorem dX5_note_33 : decode cX5_note 33 = .ok (.lconst 0, 1) := by decide +kernel
theorem dX5_note_34 : decode cX5_note 34 = .ok (.ldc2_w 180, 3) := by decide +kernel
theorem dX5_note_37 : decode cX5_note 37 = .ok (.invokestatic 80, 3) := by decide +kernel
theorem dX5_note_40 : decode cX5_note 40 = .ok (.ifCond .eq 16, 3) := by decide +kernel
theorem dX5_note_43 : decode cX5_note 43 = .ok (.iload 6, 2) := by decide +kernel
theorem dX5_note_45 : decode cX5_note 45 = .ok (.i2l, 1) := by decide +kernel
theorem dX5_note_46 : decode cX5_note 46 = .ok (.lconst 0, 1) := by decide +kernel
theorem dX5_note_47 : decode cX5_note 47 = .ok (.ldc2_w 182, 3) := by decide +kernel
theorem dX5_note_50 : decode cX5_note 50 = .ok (.invokestatic 80, 3) := by decide +kernel
theorem dX5_note_53 : decode cX5_note 53 = .ok (.ifCond .ne 10, 3) := by decide +kernel
theorem dX5_note_56 : decode cX5_note 56 = .ok (.aload_n 0, 1) := by decide +kernel
theorem dX5_note_57 : decode cX5_note 57 = .ok (.bipush (-2), 2) := by decide +kernel
theorem dX5_note_59 : decode cX5_note 59 = .ok (.invokevirtual 94, 3) := by decide +kernel
theorem dX5_note_62 : decode cX5_note 62 = .ok (.ireturn, 1) := by decide +kernel
theorem dX5_note_63 : decode cX5_note 63 = .ok (.aload_n 0, 1) := by decide +kernel
theorem dX5_note_64 : decode cX5_note 64 = .ok (.getfield 7, 3) := by decide +kernel
theorem dX5_note_67 : decode cX5_note 67 = .ok (.iconst 2, 1) := by decide +kernel
theorem dX5_note_68 : decode cX5_note 68 = .ok (.iaload, 1) := by decide +kernel
theorem dX5_note_69 : decode cX5_note 69 = .ok (.bipush 6, 2) := by decide +kernel
theorem dX5_note_71 : decode cX5_note 71 = .ok (.if_icmp .ne 8, 3) := by decide +kernel
theorem dX5_note_74 : decode cX5_note 74 = .ok (.aload_n 0, 1) := by decide +kernel
theorem dX5_note_75 : decode cX5_note 75 = .ok (.invokevirtual 105, 3) := by decide +kernel
theorem dX5_note_78 : decode cX5_note 78 = .ok (.ireturn, 1) := by decide +kernel
theorem dX5_note_79 : decode cX5_note 79 = .ok (.bipush 39, 2) := by decide +kernel
theorem dX5_note_81 : decode cX5_note 81 = .ok (.bipush 6, 2) := by decide +kernel
theorem dX5_note_83 : decode cX5_note 83 = .ok (.aload_n 0, 1) := by decide +kernel
theorem dX5_note_84 : decode cX5_note 84 = .ok (.getfield 7, 3) := by decide +kernel
theorem dX5_note_87 : decode cX5_note 87 = .ok (.iconst 2, 1) := by decide +kernel
theorem dX5_note_88 : decode cX5_note 88 = .ok (.iaload, 1) := by decide +kernel
theorem dX5_note_89 : decode cX5_note 89 = .ok (.imul, 1) := by decide +kernel
theorem dX5_note_90 : decode cX5_note 90 = .ok (.iadd, 1) := by decide +kernel
theorem dX5_note_91 : decode cX5_note 91 = .ok (.istore 7, 2) := by decide +kernel
theorem dX5_note_93 : decode cX5_note 93 = .ok (.aload_n 0, 1) := by decide +kernel
theorem dX5_note_94 : decode cX5_note 94 = .ok (.getfield 7, 3) := by decide +kernel
theorem dX5_note_97 : decode cX5_note 97 = .ok (.iload 7, 2) := by decide +kernel
theorem dX5_note_99 : decode cX5_note 99 = .ok (.iload_n 1, 1) := by decide +kernel
theorem dX5_note_100 : decode cX5_note 100 = .ok (.iastore, 1) := by decide +kernel
theorem dX5_note_101 : decode cX5_note 101 = .ok (.aload_n 0, 1) := by decide +kernel
theorem dX5_note_102 : decode cX5_note 102 = .ok (.getfield 7, 3) := by decide +kernel
theorem dX5_note_105 : decode cX5_note 105 = .ok (.iload 7, 2) := by decide +kernel
theorem dX5_note_107 : decode cX5_note 107 = .ok (.iconst 1, 1) := by decide +kernel
theorem dX5_note_108 : decode cX5_note 108 = .ok (.iadd, 1) := by decide +kernel
theorem dX5_note_109 : decode cX5_note 109 = .ok (.iload_n 2, 1) := by decide +kernel
theorem dX5_note_110 : decode cX5_note 110 = .ok (.iastore, 1) := by decide +kernel
theorem dX5_note_111 : decode cX5_note 111 = .ok (.aload_n 0, 1) := by decide +kernel
theorem dX5_note_112 : decode cX5_note 112 = .ok (.getfield 7, 3) := by decide +kernel
theorem dX5_note_115 : decode cX5_note 115 = .ok (.iload 7, 2) := by decide +kernel
theorem dX5_note_117 : decode cX5_note 117 = .ok (.iconst 2, 1) := by decide +kernel
theorem dX5_note_118 : decode cX5_note 118 = .ok (.iadd, 1) := by decide +kernel
theorem dX5_note_119 : decode cX5_note 119 = .ok (.iload_n 3, 1) := by decide +kernel
theorem dX5_note_120 : decode cX5_note 120 = .ok (.iastore, 1) := by decide +kernel
theorem dX5_note_121 : decode cX5_note 121 = .ok (.aload_n 0, 1) := by decide +kernel
theorem dX5_note_122 : decode cX5_note 122 = .ok (.getfield 7, 3) := by decide +kernel
theorem dX5_note_125 : decode cX5_note 125 = .ok (.iload 7, 2) := by decide +kernel
theorem dX5_note_127 : decode cX5_note 127 = .ok (.iconst 3, 1) := by decide +kernel
theorem dX5_note_128 : decode cX5_note 128 = .ok (.iadd, 1) := by decide +kernel
theorem dX5_note_129 : decode cX5_note 129 = .ok (.iload 4, 2) := by decide +kernel
theorem dX5_note_131 : decode cX5_note 131 = .ok (.iastore, 1) := by decide +kernel
theorem dX5_note_132 : decode cX5_note 132 = .ok (.aload_n 0, 1) := by decide +kernel
theorem dX5_note_133 : decode cX5_note 133 = .ok (.getfield 7, 3) := by decide +kernel
theorem dX5_note_136 : decode cX5_note 136 = .ok (.iload 7, 2) := by decide +kernel
theorem dX5_note_138 : decode cX5_note 138 = .ok (.iconst 4, 1) := by decide +kernel
theorem dX5_note_139 : decode cX5_note 139 = .ok (.iadd, 1) := by decide +kernel
theorem dX5_note_140 : decode cX5_note 140 = .ok (.iload 5, 2) := by decide +kernel
theorem dX5_note_142 : decode cX5_note 142 = .ok (.iastore, 1) := by decide +kernel
theorem dX5_note_143 : decode cX5_note 143 = .ok (.aload_n 0, 1) := by decide +kernel
theorem dX5_note_144 : decode cX5_note 144 = .ok (.getfield 7, 3) := by decide +kernel
theorem dX5_note_147 : decode cX5_note 147 = .ok (.iload 7, 2) := by decide +kernel
theorem dX5_note_149 : decode cX5_note 149 = .ok (.iconst 5, 1) := by decide +kernel
theorem dX5_note_150 : decode cX5_note 150 = .ok (.iadd, 1) := by decide +kernel
theorem dX5_note_151 : decode cX5_note 151 = .ok (.iload 6, 2) := by decide +kernel
theorem dX5_note_153 : decode cX5_note 153 = .ok (.iastore, 1) := by decide +kernel
theorem dX5_note_154 : decode cX5_note 154 = .ok (.aload_n 0, 1) := by decide +kernel
theorem dX5_note_155 : decode cX5_note 155 = .ok (.getfield 7, 3) := by decide +kernel
theorem dX5_note_158 : decode cX5_note 158 = .ok (.iconst 2, 1) := by decide +kernel
theorem dX5_note_159 : decode cX5_note 159 = .ok (.dup2, 1) := by decide +kernel
theorem dX5_note_160 : decode cX5_note 160 = .ok (.iaload, 1) := by decide +kernel
theorem dX5_note_161 : decode cX5_note 161 = .ok (.iconst 1, 1) := by decide +kernel
theorem dX5_note_162 : decode cX5_note 162 = .ok (.iadd, 1) := by decide +kernel
theorem dX5_note_163 : decode cX5_note 163 = .ok (.iastore, 1) := by decide +kernel
theorem dX5_note_164 : decode cX5_note 164 = .ok (.aload_n 0, 1) := by decide +kernel
theorem dX5_note_165 : decode cX5_note 165 = .ok (.getfield 7, 3) := by decide +kernel
theorem dX5_note_168 : decode cX5_note 168 = .ok (.iconst 2, 1) := by decide +kernel
theorem dX5_note_169 : decode cX5_note 169 = .ok (.iaload, 1) := by decide +kernel
theorem dX5_note_170 : decode cX5_note 170 = .ok (.ireturn, 1) := by decide +kernel
theorem dX5_forget_0 : decode cX5_forget 0 = .ok (.iload_n 1, 1) := by decide +kernel
theorem dX5_forget_1 : decode cX5_forget 1 = .ok (.i2l, 1) := by decide +kernel
theorem dX5_forget_2 : decode cX5_forget 2 = .ok (.lconst 0, 1) := by decide +kernel
theorem dX5_forget_3 : decode cX5_forget 3 = .ok (.lconst 1, 1) := by decide +kernel
theorem dX5_forget_4 : decode cX5_forget 4 = .ok (.invokestatic 80, 3) := by decide +kernel
theorem dX5_forget_7 : decode cX5_forget 7 = .ok (.ifCond .ne 10, 3) := by decide +kernel
theorem dX5_forget_10 : decode cX5_forget 10 = .ok (.aload_n 0, 1) := by decide +kernel
theorem dX5_forget_11 : decode cX5_forget 11 = .ok (.bipush (-2), 2) := by decide +kernel
theorem dX5_forget_13 : decode cX5_forget 13 = .ok (.invokevirtual 94, 3) := by decide +kernel
theorem dX5_forget_16 : decode cX5_forget 16 = .ok (.ireturn, 1) := by decide +kernel
theorem dX5_forget_17 : decode cX5_forget 17 = .ok (.aload_n 0, 1) := by decide +kernel
theorem dX5_forget_18 : decode cX5_forget 18 = .ok (.getfield 7, 3) := by decide +kernel
theorem dX5_forget_21 : decode cX5_forget 21 = .ok (.iconst 1, 1) := by decide +kernel
theorem dX5_forget_22 : decode cX5_forget 22 = .ok (.iload_n 1, 1) := by decide +kernel
theorem dX5_forget_23 : decode cX5_forget 23 = .ok (.iadd, 1) := by decide +kernel
theorem dX5_forget_24 : decode cX5_forget 24 = .ok (.iaload, 1) := by decide +kernel
theorem dX5_forget_25 : decode cX5_forget 25 = .ok (.istore_n 2, 1) := by decide +kernel
theorem dX5_forget_26 : decode cX5_forget 26 = .ok (.aload_n 0, 1) := by decide +kernel
theorem dX5_forget_27 : decode cX5_forget 27 = .ok (.getfield 7, 3) := by decide +kernel
theorem dX5_forget_30 : decode cX5_forget 30 = .ok (.iconst 1, 1) := by decide +kernel
theorem dX5_forget_31 : decode cX5_forget 31 = .ok (.iload_n 1, 1) := by decide +kernel
theorem dX5_forget_32 : decode cX5_forget 32 = .ok (.iadd, 1) := by decide +kernel
theorem dX5_forget_33 : decode cX5_forget 33 = .ok (.iconst 0, 1) := by decide +kernel
theorem dX5_forget_34 : decode cX5_forget 34 = .ok (.iastore, 1) := by decide +kernel
theorem dX5_forget_35 : decode cX5_forget 35 = .ok (.iload_n 2, 1) := by decide +kernel
theorem dX5_forget_36 : decode cX5_forget 36 = .ok (.ireturn, 1) := by decide +kernel
theorem dX5_kindsOf_0 : decode cX5_kindsOf 0 = .ok (.iconst 0, 1) := by decide +kernel
theorem dX5_kindsOf_1 : decode cX5_kindsOf 1 = .ok (.istore_n 2, 1) := by decide +kernel
theorem dX5_kindsOf_2 : decode cX5_kindsOf 2 = .ok (.iconst 0, 1) := by decide +kernel
theorem dX5_kindsOf_3 : decode cX5_kindsOf 3 = .ok (.istore_n 3, 1) := by decide +kernel
theorem dX5_kindsOf_4 : decode cX5_kindsOf 4 = .ok (.iload_n 3, 1) := by decide +kernel
theorem dX5_kindsOf_5 : decode cX5_kindsOf 5 = .ok (.bipush 6, 2) := by decide +kernel
theorem dX5_kindsOf_7 : decode cX5_kindsOf 7 = .ok (.if_icmp .ge 145, 3) := by decide +kernel
theorem dX5_kindsOf_10 : decode cX5_kindsOf 10 = .ok (.iconst 1, 1) := by decide +kernel
theorem dX5_kindsOf_11 : decode cX5_kindsOf 11 = .ok (.istore 4, 2) := by decide +kernel
theorem dX5_kindsOf_13 : decode cX5_kindsOf 13 = .ok (.iconst 0, 1) := by decide +kernel
theorem dX5_kindsOf_14 : decode cX5_kindsOf 14 = .ok (.istore 5, 2) := by decide +kernel
theorem dX5_kindsOf_16 : decode cX5_kindsOf 16 = .ok (.iload 5, 2) := by decide +kernel
theorem dX5_kindsOf_18 : decode cX5_kindsOf 18 = .ok (.aload_n 0, 1) := by decide +kernel
theorem dX5_kindsOf_19 : decode cX5_kindsOf 19 = .ok (.getfield 7, 3) := by decide +kernel
theorem dX5_kindsOf_22 : decode cX5_kindsOf 22 = .ok (.iconst 2, 1) := by decide +kernel
theorem dX5_kindsOf_23 : decode cX5_kindsOf 23 = .ok (.iaload, 1) := by decide +kernel
theorem dX5_kindsOf_24 : decode cX5_kindsOf 24 = .ok (.if_icmp .ge 107, 3) := by decide +kernel
theorem dX5_kindsOf_27 : decode cX5_kindsOf 27 = .ok (.bipush 39, 2) := by decide +kernel
theorem dX5_kindsOf_29 : decode cX5_kindsOf 29 = .ok (.bipush 6, 2) := by decide +kernel
theorem dX5_kindsOf_31 : decode cX5_kindsOf 31 = .ok (.iload 5, 2) := by decide +kernel
theorem dX5_kindsOf_33 : decode cX5_kindsOf 33 = .ok (.imul, 1) := by decide +kernel
theorem dX5_kindsOf_34 : decode cX5_kindsOf 34 = .ok (.iadd, 1) := by decide +kernel
theorem dX5_kindsOf_35 : decode cX5_kindsOf 35 = .ok (.istore 6, 2) := by decide +kernel
theorem dX5_kindsOf_37 : decode cX5_kindsOf 37 = .ok (.iload_n 3, 1) := by decide +kernel
theorem dX5_kindsOf_38 : decode cX5_kindsOf 38 = .ok (.aload_n 0, 1) := by decide +kernel
theorem dX5_kindsOf_39 : decode cX5_kindsOf 39 = .ok (.getfield 7, 3) := by decide +kernel
theorem dX5_kindsOf_42 : decode cX5_kindsOf 42 = .ok (.iload 6, 2) := by decide +kernel
theorem dX5_kindsOf_44 : decode cX5_kindsOf 44 = .ok (.iconst 2, 1) := by decide +kernel
theorem dX5_kindsOf_45 : decode cX5_kindsOf 45 = .ok (.iadd, 1) := by decide +kernel
theorem dX5_kindsOf_46 : decode cX5_kindsOf 46 = .ok (.iaload, 1) := by decide +kernel
theorem dX5_kindsOf_47 : decode cX5_kindsOf 47 = .ok (.aload_n 0, 1) := by decide +kernel
theorem dX5_kindsOf_48 : decode cX5_kindsOf 48 = .ok (.getfield 7, 3) := by decide +kernel
theorem dX5_kindsOf_51 : decode cX5_kindsOf 51 = .ok (.iload 6, 2) := by decide +kernel
theorem dX5_kindsOf_53 : decode cX5_kindsOf 53 = .ok (.iconst 1, 1) := by decide +kernel
theorem dX5_kindsOf_54 : decode cX5_kindsOf 54 = .ok (.iadd, 1) := by decide +kernel
theorem dX5_kindsOf_55 : decode cX5_kindsOf 55 = .ok (.iaload, 1) := by decide +kernel
theorem dX5_kindsOf_56 : decode cX5_kindsOf 56 = .ok (.aload_n 0, 1) := by decide +kernel
theorem dX5_kindsOf_57 : decode cX5_kindsOf 57 = .ok (.getfield 7, 3) := by decide +kernel
theorem dX5_kindsOf_60 : decode cX5_kindsOf 60 = .ok (.iload 6, 2) := by decide +kernel
theorem dX5_kindsOf_62 : decode cX5_kindsOf 62 = .ok (.iconst 3, 1) := by decide +kernel
theorem dX5_kindsOf_63 : decode cX5_kindsOf 63 = .ok (.iadd, 1) := by decide +kernel
theorem dX5_kindsOf_64 : decode cX5_kindsOf 64 = .ok (.iaload, 1) := by decide +kernel
theorem dX5_kindsOf_65 : decode cX5_kindsOf 65 = .ok (.invokestatic 120, 3) := by decide +kernel
theorem dX5_kindsOf_68 : decode cX5_kindsOf 68 = .ok (.istore 7, 2) := by decide +kernel
theorem dX5_kindsOf_70 : decode cX5_kindsOf 70 = .ok (.iload 4, 2) := by decide +kernel
theorem dX5_kindsOf_72 : decode cX5_kindsOf 72 = .ok (.ifCond .eq 50, 3) := by decide +kernel
theorem dX5_kindsOf_75 : decode cX5_kindsOf 75 = .ok (.aload_n 0, 1) := by decide +kernel
theorem dX5_kindsOf_76 : decode cX5_kindsOf 76 = .ok (.getfield 7, 3) := by decide +kernel
theorem dX5_kindsOf_79 : decode cX5_kindsOf 79 = .ok (.iload 6, 2) := by decide +kernel
theorem dX5_kindsOf_81 : decode cX5_kindsOf 81 = .ok (.iaload, 1) := by decide +kernel
theorem dX5_kindsOf_82 : decode cX5_kindsOf 82 = .ok (.iload_n 1, 1) := by decide +kernel
theorem dX5_kindsOf_83 : decode cX5_kindsOf 83 = .ok (.if_icmp .ne 35, 3) := by decide +kernel
theorem dX5_kindsOf_86 : decode cX5_kindsOf 86 = .ok (.iload 7, 2) := by decide +kernel
theorem dX5_kindsOf_88 : decode cX5_kindsOf 88 = .ok (.aload_n 0, 1) := by decide +kernel
theorem dX5_kindsOf_89 : decode cX5_kindsOf 89 = .ok (.getfield 7, 3) := by decide +kernel
theorem dX5_kindsOf_92 : decode cX5_kindsOf 92 = .ok (.iload 6, 2) := by decide +kernel
theorem dX5_kindsOf_94 : decode cX5_kindsOf 94 = .ok (.iconst 4, 1) := by decide +kernel
theorem dX5_kindsOf_95 : decode cX5_kindsOf 95 = .ok (.iadd, 1) := by decide +kernel
theorem dX5_kindsOf_96 : decode cX5_kindsOf 96 = .ok (.iaload, 1) := by decide +kernel
theorem dX5_kindsOf_97 : decode cX5_kindsOf 97 = .ok (.if_icmp .ne 25, 3) := by decide +kernel
theorem dX5_kindsOf_100 : decode cX5_kindsOf 100 = .ok (.iload_n 3, 1) := by decide +kernel
theorem dX5_kindsOf_101 : decode cX5_kindsOf 101 = .ok (.iload 7, 2) := by decide +kernel
theorem dX5_kindsOf_103 : decode cX5_kindsOf 103 = .ok (.invokestatic 131, 3) := by decide +kernel
theorem dX5_kindsOf_106 : decode cX5_kindsOf 106 = .ok (.aload_n 0, 1) := by decide +kernel
theorem dX5_kindsOf_107 : decode cX5_kindsOf 107 = .ok (.getfield 7, 3) := by decide +kernel
theorem dX5_kindsOf_110 : decode cX5_kindsOf 110 = .ok (.iload 6, 2) := by decide +kernel
theorem dX5_kindsOf_112 : decode cX5_kindsOf 112 = .ok (.iconst 5, 1) := by decide +kernel
theorem dX5_kindsOf_113 : decode cX5_kindsOf 113 = .ok (.iadd, 1) := by decide +kernel
theorem dX5_kindsOf_114 : decode cX5_kindsOf 114 = .ok (.iaload, 1) := by decide +kernel
theorem dX5_kindsOf_115 : decode cX5_kindsOf 115 = .ok (.if_icmp .ne 7, 3) := by decide +kernel
theorem dX5_kindsOf_118 : decode cX5_kindsOf 118 = .ok (.iconst 1, 1) := by decide +kernel
theorem dX5_kindsOf_119 : decode cX5_kindsOf 119 = .ok (.goto 4, 3) := by decide +kernel
theorem dX5_kindsOf_122 : decode cX5_kindsOf 122 = .ok (.iconst 0, 1) := by decide +kernel
theorem dX5_kindsOf_123 : decode cX5_kindsOf 123 = .ok (.istore 4, 2) := by decide +kernel
theorem dX5_kindsOf_125 : decode cX5_kindsOf 125 = .ok (.iinc 5 1, 3) := by decide +kernel
theorem dX5_kindsOf_128 : decode cX5_kindsOf 128 = .ok (.goto (-112), 3) := by decide +kernel
theorem dX5_kindsOf_131 : decode cX5_kindsOf 131 = .ok (.iload_n 2, 1) := by decide +kernel
theorem dX5_kindsOf_132 : decode cX5_kindsOf 132 = .ok (.iload 4, 2) := by decide +kernel
theorem dX5_kindsOf_134 : decode cX5_kindsOf 134 = .ok (.ifCond .eq 9, 3) := by decide +kernel
theorem dX5_kindsOf_137 : decode cX5_kindsOf 137 = .ok (.iconst 1, 1) := by decide +kernel
theorem dX5_kindsOf_138 : decode cX5_kindsOf 138 = .ok (.iload_n 3, 1) := by decide +kernel
theorem dX5_kindsOf_139 : decode cX5_kindsOf 139 = .ok (.ishl, 1) := by decide +kernel
theorem dX5_kindsOf_140 : decode cX5_kindsOf 140 = .ok (.goto 4, 3) := by decide +kernel
theorem dX5_kindsOf_143 : decode cX5_kindsOf 143 = .ok (.iconst 0, 1) := by decide +kernel
theorem dX5_kindsOf_144 : decode cX5_kindsOf 144 = .ok (.ior, 1) := by decide +kernel
theorem dX5_kindsOf_145 : decode cX5_kindsOf 145 = .ok (.istore_n 2, 1) := by decide +kernel
theorem dX5_kindsOf_146 : decode cX5_kindsOf 146 = .ok (.iinc 3 1, 3) := by decide +kernel
theorem dX5_kindsOf_149 : decode cX5_kindsOf 149 = .ok (.goto (-145), 3) := by decide +kernel
theorem dX5_kindsOf_152 : decode cX5_kindsOf 152 = .ok (.iload_n 2, 1) := by decide +kernel
theorem dX5_kindsOf_153 : decode cX5_kindsOf 153 = .ok (.ireturn, 1) := by decide +kernel
theorem dX5_is_0 : decode cX5_is 0 = .ok (.aload_n 0, 1) := by decide +kernel
theorem dX5_is_1 : decode cX5_is 1 = .ok (.iload_n 1, 1) := by decide +kernel
theorem dX5_is_2 : decode cX5_is 2 = .ok (.invokevirtual 148, 3) := by decide +kernel
theorem dX5_is_5 : decode cX5_is 5 = .ok (.ifCond .eq 11, 3) := by decide +kernel
theorem dX5_is_8 : decode cX5_is 8 = .ok (.aload_n 0, 1) := by decide +kernel
theorem dX5_is_9 : decode cX5_is 9 = .ok (.iload_n 1, 1) := by decide +kernel
theorem dX5_is_10 : decode cX5_is 10 = .ok (.invokevirtual 184, 3) := by decide +kernel
theorem dX5_is_13 : decode cX5_is 13 = .ok (.goto 9, 3) := by decide +kernel
theorem dX5_is_16 : decode cX5_is 16 = .ok (.aload_n 0, 1) := by decide +kernel
theorem dX5_is_17 : decode cX5_is 17 = .ok (.bipush (-2), 2) := by decide +kernel
theorem dX5_is_19 : decode cX5_is 19 = .ok (.invokevirtual 94, 3) := by decide +kernel
theorem dX5_is_22 : decode cX5_is 22 = .ok (.ireturn, 1) := by decide +kernel
theorem dX5_areAlike_0 : decode cX5_areAlike 0 = .ok (.iload_n 0, 1) := by decide +kernel
theorem dX5_areAlike_1 : decode cX5_areAlike 1 = .ok (.iload_n 2, 1) := by decide +kernel
theorem dX5_areAlike_2 : decode cX5_areAlike 2 = .ok (.iload_n 3, 1) := by decide +kernel
theorem dX5_areAlike_3 : decode cX5_areAlike 3 = .ok (.iload 4, 2) := by decide +kernel
theorem dX5_areAlike_5 : decode cX5_areAlike 5 = .ok (.invokestatic 120, 3) := by decide +kernel
theorem dX5_areAlike_8 : decode cX5_areAlike 8 = .ok (.istore 5, 2) := by decide +kernel
theorem dX5_areAlike_10 : decode cX5_areAlike 10 = .ok (.iload_n 1, 1) := by decide +kernel
theorem dX5_areAlike_11 : decode cX5_areAlike 11 = .ok (.iload_n 2, 1) := by decide +kernel
theorem dX5_areAlike_12 : decode cX5_areAlike 12 = .ok (.iload_n 3, 1) := by decide +kernel
theorem dX5_areAlike_13 : decode cX5_areAlike 13 = .ok (.iload 4, 2) := by decide +kernel
theorem dX5_areAlike_15 : decode cX5_areAlike 15 = .ok (.invokestatic 120, 3) := by decide +kernel
theorem dX5_areAlike_18 : decode cX5_areAlike 18 = .ok (.istore 6, 2) := by decide +kernel
theorem dX5_areAlike_20 : decode cX5_areAlike 20 = .ok (.iload 5, 2) := by decide +kernel
theorem dX5_areAlike_22 : decode cX5_areAlike 22 = .ok (.iload 6, 2) := by decide +kernel
theorem dX5_areAlike_24 : decode cX5_areAlike 24 = .ok (.if_icmp .ne 22, 3) := by decide +kernel
theorem dX5_areAlike_27 : decode cX5_areAlike 27 = .ok (.iload_n 0, 1) := by decide +kernel
theorem dX5_areAlike_28 : decode cX5_areAlike 28 = .ok (.iload 5, 2) := by decide +kernel
theorem dX5_areAlike_30 : decode cX5_areAlike 30 = .ok (.invokestatic 131, 3) := by decide +kernel
theorem dX5_areAlike_33 : decode cX5_areAlike 33 = .ok (.iload_n 1, 1) := by decide +kernel
theorem dX5_areAlike_34 : decode cX5_areAlike 34 = .ok (.iload 6, 2) := by decide +kernel
theorem dX5_areAlike_36 : decode cX5_areAlike 36 = .ok (.invokestatic 131, 3) := by decide +kernel
theorem dX5_areAlike_39 : decode cX5_areAlike 39 = .ok (.if_icmp .ne 7, 3) := by decide +kernel
theorem dX5_areAlike_42 : decode cX5_areAlike 42 = .ok (.iconst 1, 1) := by decide +kernel
theorem dX5_areAlike_43 : decode cX5_areAlike 43 = .ok (.goto 4, 3) := by decide +kernel
theorem dX5_areAlike_46 : decode cX5_areAlike 46 = .ok (.iconst 0, 1) := by decide +kernel
theorem dX5_areAlike_47 : decode cX5_areAlike 47 = .ok (.ireturn, 1) := by decide +kernel
theorem dX5_look_0 : decode cX5_look 0 = .ok (.aload_n 0, 1) := by decide +kernel
theorem dX5_look_1 : decode cX5_look 1 = .ok (.iload_n 1, 1) := by decide +kernel
theorem dX5_look_2 : decode cX5_look 2 = .ok (.invokevirtual 148, 3) := by decide +kernel
theorem dX5_look_5 : decode cX5_look 5 = .ok (.ifCond .ne 10, 3) := by decide +kernel
theorem dX5_look_8 : decode cX5_look 8 = .ok (.aload_n 0, 1) := by decide +kernel
theorem dX5_look_9 : decode cX5_look 9 = .ok (.bipush (-2), 2) := by decide +kernel
theorem dX5_look_11 : decode cX5_look 11 = .ok (.invokevirtual 94, 3) := by decide +kernel
theorem dX5_look_14 : decode cX5_look 14 = .ok (.ireturn, 1) := by decide +kernel
theorem dX5_look_15 : decode cX5_look 15 = .ok (.aload_n 0, 1) := by decide +kernel
theorem dX5_look_16 : decode cX5_look 16 = .ok (.iload_n 1, 1) := by decide +kernel
theorem dX5_look_17 : decode cX5_look 17 = .ok (.invokevirtual 184, 3) := by decide +kernel
theorem dX5_look_20 : decode cX5_look 20 = .ok (.istore_n 2, 1) := by decide +kernel
theorem dX5_look_21 : decode cX5_look 21 = .ok (.iconst (-1), 1) := by decide +kernel
theorem dX5_look_22 : decode cX5_look 22 = .ok (.istore_n 3, 1) := by decide +kernel
theorem dX5_look_23 : decode cX5_look 23 = .ok (.ldc 170, 2) := by decide +kernel
theorem dX5_look_25 : decode cX5_look 25 = .ok (.istore 4, 2) := by decide +kernel
theorem dX5_look_27 : decode cX5_look 27 = .ok (.iconst 0, 1) := by decide +kernel
theorem dX5_look_28 : decode cX5_look 28 = .ok (.istore 5, 2) := by decide +kernel
theorem dX5_look_30 : decode cX5_look 30 = .ok (.iload 5, 2) := by decide +kernel
theorem dX5_look_32 : decode cX5_look 32 = .ok (.sipush 131, 3) := by decide +kernel
theorem dX5_look_35 : decode cX5_look 35 = .ok (.if_icmp .ge 176, 3) := by decide +kernel
theorem dX5_look_38 : decode cX5_look 38 = .ok (.iload_n 2, 1) := by decide +kernel
theorem dX5_look_39 : decode cX5_look 39 = .ok (.ifCond .le 172, 3) := by decide +kernel
theorem dX5_look_42 : decode cX5_look 42 = .ok (.iload 5, 2) := by decide +kernel
theorem dX5_look_44 : decode cX5_look 44 = .ok (.bipush 100, 2) := by decide +kernel
theorem dX5_look_46 : decode cX5_look 46 = .ok (.irem, 1) := by decide +kernel
theorem dX5_look_47 : decode cX5_look 47 = .ok (.bipush 31, 2) := by decide +kernel
theorem dX5_look_49 : decode cX5_look 49 = .ok (.if_icmp .ge 7, 3) := by decide +kernel
theorem dX5_look_52 : decode cX5_look 52 = .ok (.iconst 0, 1) := by decide +kernel
theorem dX5_look_53 : decode cX5_look 53 = .ok (.goto 5, 3) := by decide +kernel
theorem dX5_look_56 : decode cX5_look 56 = .ok (.ldc 170, 2) := by decide +kernel
theorem dX5_look_58 : decode cX5_look 58 = .ok (.istore 6, 2) := by decide +kernel
theorem dX5_look_60 : decode cX5_look 60 = .ok (.iconst 0, 1) := by decide +kernel
theorem dX5_look_61 : decode cX5_look 61 = .ok (.istore 7, 2) := by decide +kernel
theorem dX5_look_63 : decode cX5_look 63 = .ok (.iload 7, 2) := by decide +kernel
theorem dX5_look_65 : decode cX5_look 65 = .ok (.bipush 6, 2) := by decide +kernel
theorem dX5_look_67 : decode cX5_look 67 = .ok (.if_icmp .ge 108, 3) := by decide +kernel
theorem dX5_look_70 : decode cX5_look 70 = .ok (.iload 6, 2) := by decide +kernel
theorem dX5_look_72 : decode cX5_look 72 = .ok (.ldc 170, 2) := by decide +kernel
theorem dX5_look_74 : decode cX5_look 74 = .ok (.if_icmp .ge 101, 3) := by decide +kernel
theorem dX5_look_77 : decode cX5_look 77 = .ok (.iconst 0, 1) := by decide +kernel
theorem dX5_look_78 : decode cX5_look 78 = .ok (.istore 8, 2) := by decide +kernel
theorem dX5_look_80 : decode cX5_look 80 = .ok (.iconst 0, 1) := by decide +kernel
theorem dX5_look_81 : decode cX5_look 81 = .ok (.istore 9, 2) := by decide +kernel
theorem dX5_look_83 : decode cX5_look 83 = .ok (.iload 9, 2) := by decide +kernel
theorem dX5_look_85 : decode cX5_look 85 = .ok (.bipush 6, 2) := by decide +kernel
theorem dX5_look_87 : decode cX5_look 87 = .ok (.if_icmp .ge 66, 3) := by decide +kernel
theorem dX5_look_90 : decode cX5_look 90 = .ok (.iload_n 2, 1) := by decide +kernel
theorem dX5_look_91 : decode cX5_look 91 = .ok (.iload 7, 2) := by decide +kernel
theorem dX5_look_93 : decode cX5_look 93 = .ok (.invokestatic 116, 3) := by decide +kernel
theorem dX5_look_96 : decode cX5_look 96 = .ok (.ifCond .eq 57, 3) := by decide +kernel
theorem dX5_look_99 : decode cX5_look 99 = .ok (.iload 8, 2) := by decide +kernel
theorem dX5_look_101 : decode cX5_look 101 = .ok (.iload_n 2, 1) := by decide +kernel
theorem dX5_look_102 : decode cX5_look 102 = .ok (.iload 9, 2) := by decide +kernel
theorem dX5_look_104 : decode cX5_look 104 = .ok (.invokestatic 116, 3) := by decide +kernel
theorem dX5_look_107 : decode cX5_look 107 = .ok (.ifCond .eq 36, 3) := by decide +kernel
theorem dX5_look_110 : decode cX5_look 110 = .ok (.iload 7, 2) := by decide +kernel
theorem dX5_look_112 : decode cX5_look 112 = .ok (.iload 9, 2) := by decide +kernel
theorem dX5_look_114 : decode cX5_look 114 = .ok (.iload 5, 2) := by decide +kernel
theorem dX5_look_116 : decode cX5_look 116 = .ok (.bipush 100, 2) := by decide +kernel
theorem dX5_look_118 : decode cX5_look 118 = .ok (.idiv, 1) := by decide +kernel
theorem dX5_look_119 : decode cX5_look 119 = .ok (.aload_n 0, 1) := by decide +kernel
theorem dX5_look_120 : decode cX5_look 120 = .ok (.getfield 7, 3) := by decide +kernel
theorem dX5_look_123 : decode cX5_look 123 = .ok (.bipush 19, 2) := by decide +kernel
theorem dX5_look_125 : decode cX5_look 125 = .ok (.iload_n 1, 1) := by decide +kernel
theorem dX5_look_126 : decode cX5_look 126 = .ok (.iadd, 1) := by decide +kernel
theorem dX5_look_127 : decode cX5_look 127 = .ok (.iaload, 1) := by decide +kernel
theorem dX5_look_128 : decode cX5_look 128 = .ok (.iload 5, 2) := by decide +kernel
theorem dX5_look_130 : decode cX5_look 130 = .ok (.bipush 100, 2) := by decide +kernel
theorem dX5_look_132 : decode cX5_look 132 = .ok (.irem, 1) := by decide +kernel
theorem dX5_look_133 : decode cX5_look 133 = .ok (.invokestatic 187, 3) := by decide +kernel
theorem dX5_look_136 : decode cX5_look 136 = .ok (.ifCond .eq 7, 3) := by decide +kernel
theorem dX5_look_139 : decode cX5_look 139 = .ok (.iconst 1, 1) := by decide +kernel
theorem dX5_look_140 : decode cX5_look 140 = .ok (.goto 4, 3) := by decide +kernel
theorem dX5_look_143 : decode cX5_look 143 = .ok (.iconst 0, 1) := by decide +kernel
theorem dX5_look_144 : decode cX5_look 144 = .ok (.iadd, 1) := by decide +kernel
theorem dX5_look_145 : decode cX5_look 145 = .ok (.istore 8, 2) := by decide +kernel
theorem dX5_look_147 : decode cX5_look 147 = .ok (.iinc 9 1, 3) := by decide +kernel
theorem dX5_look_150 : decode cX5_look 150 = .ok (.goto (-67), 3) := by decide +kernel
theorem dX5_look_153 : decode cX5_look 153 = .ok (.iload 8, 2) := by decide +kernel
theorem dX5_look_155 : decode cX5_look 155 = .ok (.iload 6, 2) := by decide +kernel
theorem dX5_look_157 : decode cX5_look 157 = .ok (.if_icmp .le 8, 3) := by decide +kernel
theorem dX5_look_160 : decode cX5_look 160 = .ok (.iload 8, 2) := by decide +kernel
theorem dX5_look_162 : decode cX5_look 162 = .ok (.goto 5, 3) := by decide +kernel
theorem dX5_look_165 : decode cX5_look 165 = .ok (.iload 6, 2) := by decide +kernel
theorem dX5_look_167 : decode cX5_look 167 = .ok (.istore 6, 2) := by decide +kernel
theorem dX5_look_169 : decode cX5_look 169 = .ok (.iinc 7 1, 3) := by decide +kernel
theorem dX5_look_172 : decode cX5_look 172 = .ok (.goto (-109), 3) := by decide +kernel
theorem dX5_look_175 : decode cX5_look 175 = .ok (.iload 6, 2) := by decide +kernel
theorem dX5_look_177 : decode cX5_look 177 = .ok (.iload 4, 2) := by decide +kernel
theorem dX5_look_179 : decode cX5_look 179 = .ok (.if_icmp .ge 8, 3) := by decide +kernel
theorem dX5_look_182 : decode cX5_look 182 = .ok (.iload 5, 2) := by decide +kernel
theorem dX5_look_184 : decode cX5_look 184 = .ok (.goto 4, 3) := by decide +kernel
theorem dX5_look_187 : decode cX5_look 187 = .ok (.iload_n 3, 1) := by decide +kernel
theorem dX5_look_188 : decode cX5_look 188 = .ok (.istore_n 3, 1) := by decide +kernel
theorem dX5_look_189 : decode cX5_look 189 = .ok (.iload 6, 2) := by decide +kernel
theorem dX5_look_191 : decode cX5_look 191 = .ok (.iload 4, 2) := by decide +kernel
theorem dX5_look_193 : decode cX5_look 193 = .ok (.if_icmp .ge 8, 3) := by decide +kernel
theorem dX5_look_196 : decode cX5_look 196 = .ok (.iload 6, 2) := by decide +kernel
theorem dX5_look_198 : decode cX5_look 198 = .ok (.goto 5, 3) := by decide +kernel
theorem dX5_look_201 : decode cX5_look 201 = .ok (.iload 4, 2) := by decide +kernel
theorem dX5_look_203 : decode cX5_look 203 = .ok (.istore 4, 2) := by decide +kernel
theorem dX5_look_205 : decode cX5_look 205 = .ok (.iinc 5 1, 3) := by decide +kernel
theorem dX5_look_208 : decode cX5_look 208 = .ok (.goto (-178), 3) := by decide +kernel
theorem dX5_look_211 : decode cX5_look 211 = .ok (.iload_n 3, 1) := by decide +kernel
theorem dX5_look_212 : decode cX5_look 212 = .ok (.ireturn, 1) := by decide +kernel
theorem dX5_wouldBoth_0 : decode cX5_wouldBoth 0 = .ok (.aload_n 0, 1) := by decide +kernel
theorem dX5_wouldBoth_1 : decode cX5_wouldBoth 1 = .ok (.aload_n 0, 1) := by decide +kernel
theorem dX5_wouldBoth_2 : decode cX5_wouldBoth 2 = .ok (.getfield 7, 3) := by decide +kernel
theorem dX5_wouldBoth_5 : decode cX5_wouldBoth 5 = .ok (.aload_n 0, 1) := by decide +kernel
theorem dX5_wouldBoth_6 : decode cX5_wouldBoth 6 = .ok (.getfield 7, 3) := by decide +kernel
theorem dX5_wouldBoth_9 : decode cX5_wouldBoth 9 = .ok (.bipush 24, 2) := by decide +kernel
theorem dX5_wouldBoth_11 : decode cX5_wouldBoth 11 = .ok (.iaload, 1) := by decide +kernel
theorem dX5_wouldBoth_12 : decode cX5_wouldBoth 12 = .ok (.iconst 0, 1) := by decide +kernel
theorem dX5_wouldBoth_13 : decode cX5_wouldBoth 13 = .ok (.invokevirtual 135, 3) := by decide +kernel
theorem dX5_wouldBoth_16 : decode cX5_wouldBoth 16 = .ok (.aload_n 0, 1) := by decide +kernel
theorem dX5_wouldBoth_17 : decode cX5_wouldBoth 17 = .ok (.getfield 33, 3) := by decide +kernel
theorem dX5_wouldBoth_20 : decode cX5_wouldBoth 20 = .ok (.iload_n 1, 1) := by decide +kernel
theorem dX5_wouldBoth_21 : decode cX5_wouldBoth 21 = .ok (.iaload, 1) := by decide +kernel
theorem dX5_wouldBoth_22 : decode cX5_wouldBoth 22 = .ok (.istore_n 3, 1) := by decide +kernel
theorem dX5_wouldBoth_23 : decode cX5_wouldBoth 23 = .ok (.aload_n 0, 1) := by decide +kernel
theorem dX5_wouldBoth_24 : decode cX5_wouldBoth 24 = .ok (.getfield 33, 3) := by decide +kernel
theorem dX5_wouldBoth_27 : decode cX5_wouldBoth 27 = .ok (.iload_n 2, 1) := by decide +kernel
theorem dX5_wouldBoth_28 : decode cX5_wouldBoth 28 = .ok (.iaload, 1) := by decide +kernel
theorem dX5_wouldBoth_29 : decode cX5_wouldBoth 29 = .ok (.istore 4, 2) := by decide +kernel
theorem dX5_wouldBoth_31 : decode cX5_wouldBoth 31 = .ok (.iconst 0, 1) := by decide +kernel
theorem dX5_wouldBoth_32 : decode cX5_wouldBoth 32 = .ok (.istore 5, 2) := by decide +kernel
theorem dX5_wouldBoth_34 : decode cX5_wouldBoth 34 = .ok (.iload 5, 2) := by decide +kernel
theorem dX5_wouldBoth_36 : decode cX5_wouldBoth 36 = .ok (.bipush 31, 2) := by decide +kernel
theorem dX5_wouldBoth_38 : decode cX5_wouldBoth 38 = .ok (.if_icmp .ge 23, 3) := by decide +kernel
theorem dX5_wouldBoth_41 : decode cX5_wouldBoth 41 = .ok (.aload_n 0, 1) := by decide +kernel
theorem dX5_wouldBoth_42 : decode cX5_wouldBoth 42 = .ok (.getfield 54, 3) := by decide +kernel
theorem dX5_wouldBoth_45 : decode cX5_wouldBoth 45 = .ok (.iload 5, 2) := by decide +kernel
theorem dX5_wouldBoth_47 : decode cX5_wouldBoth 47 = .ok (.aload_n 0, 1) := by decide +kernel
theorem dX5_wouldBoth_48 : decode cX5_wouldBoth 48 = .ok (.getfield 7, 3) := by decide +kernel
theorem dX5_wouldBoth_51 : decode cX5_wouldBoth 51 = .ok (.iload 5, 2) := by decide +kernel
theorem dX5_wouldBoth_53 : decode cX5_wouldBoth 53 = .ok (.iaload, 1) := by decide +kernel
theorem dX5_wouldBoth_54 : decode cX5_wouldBoth 54 = .ok (.iastore, 1) := by decide +kernel
theorem dX5_wouldBoth_55 : decode cX5_wouldBoth 55 = .ok (.iinc 5 1, 3) := by decide +kernel
theorem dX5_wouldBoth_58 : decode cX5_wouldBoth 58 = .ok (.goto (-24), 3) := by decide +kernel
theorem dX5_wouldBoth_61 : decode cX5_wouldBoth 61 = .ok (.aload_n 0, 1) := by decide +kernel
theorem dX5_wouldBoth_62 : decode cX5_wouldBoth 62 = .ok (.getfield 54, 3) := by decide +kernel
theorem dX5_wouldBoth_65 : decode cX5_wouldBoth 65 = .ok (.bipush 14, 2) := by decide +kernel
theorem dX5_wouldBoth_67 : decode cX5_wouldBoth 67 = .ok (.iload_n 1, 1) := by decide +kernel
theorem dX5_wouldBoth_68 : decode cX5_wouldBoth 68 = .ok (.iadd, 1) := by decide +kernel
theorem dX5_wouldBoth_69 : decode cX5_wouldBoth 69 = .ok (.aload_n 0, 1) := by decide +kernel
theorem dX5_wouldBoth_70 : decode cX5_wouldBoth 70 = .ok (.getfield 7, 3) := by decide +kernel
theorem dX5_wouldBoth_73 : decode cX5_wouldBoth 73 = .ok (.bipush 14, 2) := by decide +kernel
theorem dX5_wouldBoth_75 : decode cX5_wouldBoth 75 = .ok (.iload_n 2, 1) := by decide +kernel
theorem dX5_wouldBoth_76 : decode cX5_wouldBoth 76 = .ok (.iadd, 1) := by decide +kernel
theorem dX5_wouldBoth_77 : decode cX5_wouldBoth 77 = .ok (.iaload, 1) := by decide +kernel
theorem dX5_wouldBoth_78 : decode cX5_wouldBoth 78 = .ok (.iastore, 1) := by decide +kernel
theorem dX5_wouldBoth_79 : decode cX5_wouldBoth 79 = .ok (.aload_n 0, 1) := by decide +kernel
theorem dX5_wouldBoth_80 : decode cX5_wouldBoth 80 = .ok (.getfield 54, 3) := by decide +kernel
theorem dX5_wouldBoth_83 : decode cX5_wouldBoth 83 = .ok (.bipush 14, 2) := by decide +kernel
theorem dX5_wouldBoth_85 : decode cX5_wouldBoth 85 = .ok (.iload_n 2, 1) := by decide +kernel
theorem dX5_wouldBoth_86 : decode cX5_wouldBoth 86 = .ok (.iadd, 1) := by decide +kernel
theorem dX5_wouldBoth_87 : decode cX5_wouldBoth 87 = .ok (.aload_n 0, 1) := by decide +kernel
theorem dX5_wouldBoth_88 : decode cX5_wouldBoth 88 = .ok (.getfield 7, 3) := by decide +kernel
theorem dX5_wouldBoth_91 : decode cX5_wouldBoth 91 = .ok (.bipush 14, 2) := by decide +kernel
theorem dX5_wouldBoth_93 : decode cX5_wouldBoth 93 = .ok (.iload_n 1, 1) := by decide +kernel
theorem dX5_wouldBoth_94 : decode cX5_wouldBoth 94 = .ok (.iadd, 1) := by decide +kernel
theorem dX5_wouldBoth_95 : decode cX5_wouldBoth 95 = .ok (.iaload, 1) := by decide +kernel
theorem dX5_wouldBoth_96 : decode cX5_wouldBoth 96 = .ok (.iastore, 1) := by decide +kernel
theorem dX5_wouldBoth_97 : decode cX5_wouldBoth 97 = .ok (.aload_n 0, 1) := by decide +kernel
theorem dX5_wouldBoth_98 : decode cX5_wouldBoth 98 = .ok (.aload_n 0, 1) := by decide +kernel
theorem dX5_wouldBoth_99 : decode cX5_wouldBoth 99 = .ok (.getfield 54, 3) := by decide +kernel
theorem dX5_wouldBoth_102 : decode cX5_wouldBoth 102 = .ok (.aload_n 0, 1) := by decide +kernel
theorem dX5_wouldBoth_103 : decode cX5_wouldBoth 103 = .ok (.getfield 54, 3) := by decide +kernel
theorem dX5_wouldBoth_106 : decode cX5_wouldBoth 106 = .ok (.bipush 24, 2) := by decide +kernel
theorem dX5_wouldBoth_108 : decode cX5_wouldBoth 108 = .ok (.iaload, 1) := by decide +kernel
theorem dX5_wouldBoth_109 : decode cX5_wouldBoth 109 = .ok (.iconst 0, 1) := by decide +kernel
theorem dX5_wouldBoth_110 : decode cX5_wouldBoth 110 = .ok (.invokevirtual 135, 3) := by decide +kernel
theorem dX5_wouldBoth_113 : decode cX5_wouldBoth 113 = .ok (.aload_n 0, 1) := by decide +kernel
theorem dX5_wouldBoth_114 : decode cX5_wouldBoth 114 = .ok (.getfield 33, 3) := by decide +kernel
theorem dX5_wouldBoth_117 : decode cX5_wouldBoth 117 = .ok (.iload_n 1, 1) := by decide +kernel
theorem dX5_wouldBoth_118 : decode cX5_wouldBoth 118 = .ok (.iaload, 1) := by decide +kernel
theorem dX5_wouldBoth_119 : decode cX5_wouldBoth 119 = .ok (.iload_n 3, 1) := by decide +kernel
theorem dX5_wouldBoth_120 : decode cX5_wouldBoth 120 = .ok (.if_icmp .le 18, 3) := by decide +kernel
theorem dX5_wouldBoth_123 : decode cX5_wouldBoth 123 = .ok (.aload_n 0, 1) := by decide +kernel
theorem dX5_wouldBoth_124 : decode cX5_wouldBoth 124 = .ok (.getfield 33, 3) := by decide +kernel
theorem dX5_wouldBoth_127 : decode cX5_wouldBoth 127 = .ok (.iload_n 2, 1) := by decide +kernel
theorem dX5_wouldBoth_128 : decode cX5_wouldBoth 128 = .ok (.iaload, 1) := by decide +kernel
theorem dX5_wouldBoth_129 : decode cX5_wouldBoth 129 = .ok (.iload 4, 2) := by decide +kernel
theorem dX5_wouldBoth_131 : decode cX5_wouldBoth 131 = .ok (.if_icmp .le 7, 3) := by decide +kernel
theorem dX5_wouldBoth_134 : decode cX5_wouldBoth 134 = .ok (.iconst 1, 1) := by decide +kernel
theorem dX5_wouldBoth_135 : decode cX5_wouldBoth 135 = .ok (.goto 4, 3) := by decide +kernel
theorem dX5_wouldBoth_138 : decode cX5_wouldBoth 138 = .ok (.iconst 0, 1) := by decide +kernel
theorem dX5_wouldBoth_139 : decode cX5_wouldBoth 139 = .ok (.ireturn, 1) := by decide +kernel
theorem dX5_swaps_0 : decode cX5_swaps 0 = .ok (.iload_n 1, 1) := by decide +kernel
theorem dX5_swaps_1 : decode cX5_swaps 1 = .ok (.iconst (-1), 1) := by decide +kernel
theorem dX5_swaps_2 : decode cX5_swaps 2 = .ok (.if_icmp .ge 10, 3) := by decide +kernel
theorem dX5_swaps_5 : decode cX5_swaps 5 = .ok (.aload_n 0, 1) := by decide +kernel
theorem dX5_swaps_6 : decode cX5_swaps 6 = .ok (.bipush (-10), 2) := by decide +kernel
theorem dX5_swaps_8 : decode cX5_swaps 8 = .ok (.invokevirtual 94, 3) := by decide +kernel
theorem dX5_swaps_11 : decode cX5_swaps 11 = .ok (.ireturn, 1) := by decide +kernel
theorem dX5_swaps_12 : decode cX5_swaps 12 = .ok (.iconst 0, 1) := by decide +kernel
theorem dX5_swaps_13 : decode cX5_swaps 13 = .ok (.istore_n 2, 1) := by decide +kernel
theorem dX5_swaps_14 : decode cX5_swaps 14 = .ok (.bipush (-5), 2) := by decide +kernel
theorem dX5_swaps_16 : decode cX5_swaps 16 = .ok (.istore_n 3, 1) := by decide +kernel
theorem dX5_swaps_17 : decode cX5_swaps 17 = .ok (.iconst 0, 1) := by decide +kernel
theorem dX5_swaps_18 : decode cX5_swaps 18 = .ok (.istore 4, 2) := by decide +kernel
theorem dX5_swaps_20 : decode cX5_swaps 20 = .ok (.iload 4, 2) := by decide +kernel
theorem dX5_swaps_22 : decode cX5_swaps 22 = .ok (.aload_n 0, 1) := by decide +kernel
theorem dX5_swaps_23 : decode cX5_swaps 23 = .ok (.invokevirtual 76, 3) := by decide +kernel
theorem dX5_swaps_26 : decode cX5_swaps 26 = .ok (.if_icmp .ge 62, 3) := by decide +kernel
theorem dX5_swaps_29 : decode cX5_swaps 29 = .ok (.iload 4, 2) := by decide +kernel
theorem dX5_swaps_31 : decode cX5_swaps 31 = .ok (.iconst 1, 1) := by decide +kernel
theorem dX5_swaps_32 : decode cX5_swaps 32 = .ok (.iadd, 1) := by decide +kernel
theorem dX5_swaps_33 : decode cX5_swaps 33 = .ok (.istore 5, 2) := by decide +kernel
theorem dX5_swaps_35 : decode cX5_swaps 35 = .ok (.iload 5, 2) := by decide +kernel
theorem dX5_swaps_37 : decode cX5_swaps 37 = .ok (.aload_n 0, 1) := by decide +kernel
theorem dX5_swaps_38 : decode cX5_swaps 38 = .ok (.invokevirtual 76, 3) := by decide +kernel
theorem dX5_swaps_41 : decode cX5_swaps 41 = .ok (.if_icmp .ge 41, 3) := by decide +kernel
theorem dX5_swaps_44 : decode cX5_swaps 44 = .ok (.aload_n 0, 1) := by decide +kernel
theorem dX5_swaps_45 : decode cX5_swaps 45 = .ok (.iload 4, 2) := by decide +kernel
theorem dX5_swaps_47 : decode cX5_swaps 47 = .ok (.iload 5, 2) := by decide +kernel
theorem dX5_swaps_49 : decode cX5_swaps 49 = .ok (.invokevirtual 191, 3) := by decide +kernel
theorem dX5_swaps_52 : decode cX5_swaps 52 = .ok (.ifCond .eq 24, 3) := by decide +kernel
theorem dX5_swaps_55 : decode cX5_swaps 55 = .ok (.iload_n 2, 1) := by decide +kernel
theorem dX5_swaps_56 : decode cX5_swaps 56 = .ok (.iload_n 1, 1) := by decide +kernel
theorem dX5_swaps_57 : decode cX5_swaps 57 = .ok (.if_icmp .ne 14, 3) := by decide +kernel
theorem dX5_swaps_60 : decode cX5_swaps 60 = .ok (.bipush 10, 2) := by decide +kernel
theorem dX5_swaps_62 : decode cX5_swaps 62 = .ok (.iload 4, 2) := by decide +kernel
theorem dX5_swaps_64 : decode cX5_swaps 64 = .ok (.imul, 1) := by decide +kernel
theorem dX5_swaps_65 : decode cX5_swaps 65 = .ok (.iload 5, 2) := by decide +kernel
theorem dX5_swaps_67 : decode cX5_swaps 67 = .ok (.iadd, 1) := by decide +kernel
theorem dX5_swaps_68 : decode cX5_swaps 68 = .ok (.goto 4, 3) := by decide +kernel
theorem dX5_swaps_71 : decode cX5_swaps 71 = .ok (.iload_n 3, 1) := by decide +kernel
theorem dX5_swaps_72 : decode cX5_swaps 72 = .ok (.istore_n 3, 1) := by decide +kernel
theorem dX5_swaps_73 : decode cX5_swaps 73 = .ok (.iinc 2 1, 3) := by decide +kernel
theorem dX5_swaps_76 : decode cX5_swaps 76 = .ok (.iinc 5 1, 3) := by decide +kernel
theorem dX5_swaps_79 : decode cX5_swaps 79 = .ok (.goto (-44), 3) := by decide +kernel
theorem dX5_swaps_82 : decode cX5_swaps 82 = .ok (.iinc 4 1, 3) := by decide +kernel
theorem dX5_swaps_85 : decode cX5_swaps 85 = .ok (.goto (-65), 3) := by decide +kernel
theorem dX5_swaps_88 : decode cX5_swaps 88 = .ok (.iload_n 1, 1) := by decide +kernel
theorem dX5_swaps_89 : decode cX5_swaps 89 = .ok (.iconst (-1), 1) := by decide +kernel
theorem dX5_swaps_90 : decode cX5_swaps 90 = .ok (.if_icmp .ne 7, 3) := by decide +kernel
theorem dX5_swaps_93 : decode cX5_swaps 93 = .ok (.iload_n 2, 1) := by decide +kernel
theorem dX5_swaps_94 : decode cX5_swaps 94 = .ok (.goto 4, 3) := by decide +kernel
theorem dX5_swaps_97 : decode cX5_swaps 97 = .ok (.iload_n 3, 1) := by decide +kernel
theorem dX5_swaps_98 : decode cX5_swaps 98 = .ok (.ireturn, 1) := by decide +kernel
theorem dX5_inspector_0 : decode cX5_inspector 0 = .ok (.aload_n 0, 1) := by decide +kernel
theorem dX5_inspector_1 : decode cX5_inspector 1 = .ok (.iload_n 1, 1) := by decide +kernel
theorem dX5_inspector_2 : decode cX5_inspector 2 = .ok (.invokevirtual 148, 3) := by decide +kernel
theorem dX5_inspector_5 : decode cX5_inspector 5 = .ok (.ifCond .eq 10, 3) := by decide +kernel
theorem dX5_inspector_8 : decode cX5_inspector 8 = .ok (.iload_n 2, 1) := by decide +kernel
theorem dX5_inspector_9 : decode cX5_inspector 9 = .ok (.invokestatic 156, 3) := by decide +kernel
theorem dX5_inspector_12 : decode cX5_inspector 12 = .ok (.ifCond .ne 10, 3) := by decide +kernel
theorem dX5_inspector_15 : decode cX5_inspector 15 = .ok (.aload_n 0, 1) := by decide +kernel
theorem dX5_inspector_16 : decode cX5_inspector 16 = .ok (.bipush (-2), 2) := by decide +kernel
theorem dX5_inspector_18 : decode cX5_inspector 18 = .ok (.invokevirtual 94, 3) := by decide +kernel
theorem dX5_inspector_21 : decode cX5_inspector 21 = .ok (.ireturn, 1) := by decide +kernel
theorem dX5_inspector_22 : decode cX5_inspector 22 = .ok (.aload_n 0, 1) := by decide +kernel
theorem dX5_inspector_23 : decode cX5_inspector 23 = .ok (.getfield 7, 3) := by decide +kernel
theorem dX5_inspector_26 : decode cX5_inspector 26 = .ok (.bipush 14, 2) := by decide +kernel
theorem dX5_inspector_28 : decode cX5_inspector 28 = .ok (.iload_n 1, 1) := by decide +kernel
theorem dX5_inspector_29 : decode cX5_inspector 29 = .ok (.iadd, 1) := by decide +kernel
theorem dX5_inspector_30 : decode cX5_inspector 30 = .ok (.iaload, 1) := by decide +kernel
theorem dX5_inspector_31 : decode cX5_inspector 31 = .ok (.iload_n 2, 1) := by decide +kernel
theorem dX5_inspector_32 : decode cX5_inspector 32 = .ok (.invokestatic 116, 3) := by decide +kernel
theorem dX5_inspector_35 : decode cX5_inspector 35 = .ok (.ifCond .ne 8, 3) := by decide +kernel
theorem dX5_inspector_38 : decode cX5_inspector 38 = .ok (.aload_n 0, 1) := by decide +kernel
theorem dX5_inspector_39 : decode cX5_inspector 39 = .ok (.invokevirtual 151, 3) := by decide +kernel
theorem dX5_inspector_42 : decode cX5_inspector 42 = .ok (.ireturn, 1) := by decide +kernel
theorem dX5_inspector_43 : decode cX5_inspector 43 = .ok (.aload_n 0, 1) := by decide +kernel
theorem dX5_inspector_44 : decode cX5_inspector 44 = .ok (.aload_n 0, 1) := by decide +kernel
theorem dX5_inspector_45 : decode cX5_inspector 45 = .ok (.getfield 7, 3) := by decide +kernel
theorem dX5_inspector_48 : decode cX5_inspector 48 = .ok (.iload_n 2, 1) := by decide +kernel
theorem dX5_inspector_49 : decode cX5_inspector 49 = .ok (.aload_n 0, 1) := by decide +kernel
theorem dX5_inspector_50 : decode cX5_inspector 50 = .ok (.getfield 7, 3) := by decide +kernel
theorem dX5_inspector_53 : decode cX5_inspector 53 = .ok (.bipush 24, 2) := by decide +kernel
theorem dX5_inspector_55 : decode cX5_inspector 55 = .ok (.iaload, 1) := by decide +kernel
theorem dX5_inspector_56 : decode cX5_inspector 56 = .ok (.aload_n 0, 1) := by decide +kernel
theorem dX5_inspector_57 : decode cX5_inspector 57 = .ok (.getfield 7, 3) := by decide +kernel
theorem dX5_inspector_60 : decode cX5_inspector 60 = .ok (.iload_n 2, 1) := by decide +kernel
theorem dX5_inspector_61 : decode cX5_inspector 61 = .ok (.invokestatic 124, 3) := by decide +kernel
theorem dX5_inspector_64 : decode cX5_inspector 64 = .ok (.invokevirtual 128, 3) := by decide +kernel
theorem dX5_inspector_67 : decode cX5_inspector 67 = .ok (.aload_n 0, 1) := by decide +kernel
theorem dX5_inspector_68 : decode cX5_inspector 68 = .ok (.getfield 7, 3) := by decide +kernel
theorem dX5_inspector_71 : decode cX5_inspector 71 = .ok (.bipush 26, 2) := by decide +kernel
theorem dX5_inspector_73 : decode cX5_inspector 73 = .ok (.iload_n 1, 1) := by decide +kernel
theorem dX5_inspector_74 : decode cX5_inspector 74 = .ok (.iadd, 1) := by decide +kernel
theorem dX5_inspector_75 : decode cX5_inspector 75 = .ok (.iaload, 1) := by decide +kernel
theorem dX5_inspector_76 : decode cX5_inspector 76 = .ok (.iconst 3, 1) := by decide +kernel
theorem dX5_inspector_77 : decode cX5_inspector 77 = .ok (.if_icmp .ne 7, 3) := by decide +kernel
theorem dX5_inspector_80 : decode cX5_inspector 80 = .ok (.iconst 1, 1) := by decide +kernel
theorem dX5_inspector_81 : decode cX5_inspector 81 = .ok (.goto 4, 3) := by decide +kernel
theorem dX5_inspector_84 : decode cX5_inspector 84 = .ok (.iconst 0, 1) := by decide +kernel
theorem dX5_inspector_85 : decode cX5_inspector 85 = .ok (.istore_n 3, 1) := by decide +kernel
theorem dX5_inspector_86 : decode cX5_inspector 86 = .ok (.iconst 0, 1) := by decide +kernel
theorem dX5_inspector_87 : decode cX5_inspector 87 = .ok (.istore 4, 2) := by decide +kernel
theorem dX5_inspector_89 : decode cX5_inspector 89 = .ok (.iload 4, 2) := by decide +kernel
theorem dX5_inspector_91 : decode cX5_inspector 91 = .ok (.iconst 4, 1) := by decide +kernel
theorem dX5_inspector_92 : decode cX5_inspector 92 = .ok (.if_icmp .ge 98, 3) := by decide +kernel
theorem dX5_inspector_95 : decode cX5_inspector 95 = .ok (.iload 4, 2) := by decide +kernel
theorem dX5_inspector_97 : decode cX5_inspector 97 = .ok (.iconst 0, 1) := by decide +kernel
theorem dX5_inspector_98 : decode cX5_inspector 98 = .ok (.invokestatic 116, 3) := by decide +kernel
theorem dX5_inspector_101 : decode cX5_inspector 101 = .ok (.istore 5, 2) := by decide +kernel
theorem dX5_inspector_103 : decode cX5_inspector 103 = .ok (.iload 4, 2) := by decide +kernel
theorem dX5_inspector_105 : decode cX5_inspector 105 = .ok (.iconst 1, 1) := by decide +kernel
theorem dX5_inspector_106 : decode cX5_inspector 106 = .ok (.invokestatic 116, 3) := by decide +kernel
theorem dX5_inspector_109 : decode cX5_inspector 109 = .ok (.istore 6, 2) := by decide +kernel
theorem dX5_inspector_111 : decode cX5_inspector 111 = .ok (.aload_n 0, 1) := by decide +kernel
theorem dX5_inspector_112 : decode cX5_inspector 112 = .ok (.getfield 57, 3) := by decide +kernel
theorem dX5_inspector_115 : decode cX5_inspector 115 = .ok (.iload 4, 2) := by decide +kernel
theorem dX5_inspector_117 : decode cX5_inspector 117 = .ok (.iload 5, 2) := by decide +kernel
theorem dX5_inspector_119 : decode cX5_inspector 119 = .ok (.ifCond .ne 7, 3) := by decide +kernel
theorem dX5_inspector_122 : decode cX5_inspector 122 = .ok (.iconst 0, 1) := by decide +kernel
theorem dX5_inspector_123 : decode cX5_inspector 123 = .ok (.goto 17, 3) := by decide +kernel
theorem dX5_inspector_126 : decode cX5_inspector 126 = .ok (.iload_n 3, 1) := by decide +kernel
theorem dX5_inspector_127 : decode cX5_inspector 127 = .ok (.ifCond .eq 12, 3) := by decide +kernel
theorem dX5_inspector_130 : decode cX5_inspector 130 = .ok (.iload 6, 2) := by decide +kernel
theorem dX5_inspector_132 : decode cX5_inspector 132 = .ok (.ifCond .eq 7, 3) := by decide +kernel
theorem dX5_inspector_135 : decode cX5_inspector 135 = .ok (.iconst 5, 1) := by decide +kernel
theorem dX5_inspector_136 : decode cX5_inspector 136 = .ok (.goto 4, 3) := by decide +kernel
theorem dX5_inspector_139 : decode cX5_inspector 139 = .ok (.iconst (-1), 1) := by decide +kernel
theorem dX5_inspector_140 : decode cX5_inspector 140 = .ok (.iastore, 1) := by decide +kernel
theorem dX5_inspector_141 : decode cX5_inspector 141 = .ok (.aload_n 0, 1) := by decide +kernel
theorem dX5_inspector_142 : decode cX5_inspector 142 = .ok (.getfield 60, 3) := by decide +kernel
theorem dX5_inspector_145 : decode cX5_inspector 145 = .ok (.iload 4, 2) := by decide +kernel
theorem dX5_inspector_147 : decode cX5_inspector 147 = .ok (.iload 6, 2) := by decide +kernel
theorem dX5_inspector_149 : decode cX5_inspector 149 = .ok (.ifCond .ne 7, 3) := by decide +kernel
theorem dX5_inspector_152 : decode cX5_inspector 152 = .ok (.iconst 0, 1) := by decide +kernel
theorem dX5_inspector_153 : decode cX5_inspector 153 = .ok (.goto 30, 3) := by decide +kernel
theorem dX5_inspector_156 : decode cX5_inspector 156 = .ok (.iload_n 3, 1) := by decide +kernel
theorem dX5_inspector_157 : decode cX5_inspector 157 = .ok (.ifCond .eq 20, 3) := by decide +kernel
theorem dX5_inspector_160 : decode cX5_inspector 160 = .ok (.iload 5, 2) := by decide +kernel
theorem dX5_inspector_162 : decode cX5_inspector 162 = .ok (.ifCond .eq 15, 3) := by decide +kernel
theorem dX5_inspector_165 : decode cX5_inspector 165 = .ok (.aload_n 0, 1) := by decide +kernel
theorem dX5_inspector_166 : decode cX5_inspector 166 = .ok (.getfield 27, 3) := by decide +kernel
theorem dX5_inspector_169 : decode cX5_inspector 169 = .ok (.iload_n 1, 1) := by decide +kernel
theorem dX5_inspector_170 : decode cX5_inspector 170 = .ok (.iaload, 1) := by decide +kernel
theorem dX5_inspector_171 : decode cX5_inspector 171 = .ok (.bipush 20, 2) := by decide +kernel
theorem dX5_inspector_173 : decode cX5_inspector 173 = .ok (.isub, 1) := by decide +kernel
theorem dX5_inspector_174 : decode cX5_inspector 174 = .ok (.goto 9, 3) := by decide +kernel
theorem dX5_inspector_177 : decode cX5_inspector 177 = .ok (.aload_n 0, 1) := by decide +kernel
theorem dX5_inspector_178 : decode cX5_inspector 178 = .ok (.getfield 27, 3) := by decide +kernel
theorem dX5_inspector_181 : decode cX5_inspector 181 = .ok (.iload_n 1, 1) := by decide +kernel
theorem dX5_inspector_182 : decode cX5_inspector 182 = .ok (.iaload, 1) := by decide +kernel
theorem dX5_inspector_183 : decode cX5_inspector 183 = .ok (.iastore, 1) := by decide +kernel
theorem dX5_inspector_184 : decode cX5_inspector 184 = .ok (.iinc 4 1, 3) := by decide +kernel
theorem dX5_inspector_187 : decode cX5_inspector 187 = .ok (.goto (-98), 3) := by decide +kernel
theorem dX5_inspector_190 : decode cX5_inspector 190 = .ok (.iconst 0, 1) := by decide +kernel
theorem dX5_inspector_191 : decode cX5_inspector 191 = .ok (.istore 4, 2) := by decide +kernel
theorem dX5_inspector_193 : decode cX5_inspector 193 = .ok (.iconst 0, 1) := by decide +kernel
theorem dX5_inspector_194 : decode cX5_inspector 194 = .ok (.istore 5, 2) := by decide +kernel
theorem dX5_inspector_196 : decode cX5_inspector 196 = .ok (.iload 5, 2) := by decide +kernel
theorem dX5_inspector_198 : decode cX5_inspector 198 = .ok (.iconst 4, 1) := by decide +kernel
theorem dX5_inspector_199 : decode cX5_inspector 199 = .ok (.if_icmp .ge 72, 3) := by decide +kernel
theorem dX5_inspector_202 : decode cX5_inspector 202 = .ok (.aload_n 0, 1) := by decide +kernel
theorem dX5_inspector_203 : decode cX5_inspector 203 = .ok (.getfield 57, 3) := by decide +kernel
theorem dX5_inspector_206 : decode cX5_inspector 206 = .ok (.iload 5, 2) := by decide +kernel
theorem dX5_inspector_208 : decode cX5_inspector 208 = .ok (.iaload, 1) := by decide +kernel
theorem dX5_inspector_209 : decode cX5_inspector 209 = .ok (.aload_n 0, 1) := by decide +kernel
theorem dX5_inspector_210 : decode cX5_inspector 210 = .ok (.getfield 57, 3) := by decide +kernel
theorem dX5_inspector_213 : decode cX5_inspector 213 = .ok (.iload 5, 2) := by decide +kernel
theorem dX5_inspector_215 : decode cX5_inspector 215 = .ok (.iconst 1, 1) := by decide +kernel
theorem dX5_inspector_216 : decode cX5_inspector 216 = .ok (.ixor, 1) := by decide +kernel
theorem dX5_inspector_217 : decode cX5_inspector 217 = .ok (.iaload, 1) := by decide +kernel
theorem dX5_inspector_218 : decode cX5_inspector 218 = .ok (.if_icmp .lt 26, 3) := by decide +kernel
theorem dX5_inspector_221 : decode cX5_inspector 221 = .ok (.aload_n 0, 1) := by decide +kernel
theorem dX5_inspector_222 : decode cX5_inspector 222 = .ok (.getfield 60, 3) := by decide +kernel
theorem dX5_inspector_225 : decode cX5_inspector 225 = .ok (.iload 5, 2) := by decide +kernel
theorem dX5_inspector_227 : decode cX5_inspector 227 = .ok (.iaload, 1) := by decide +kernel
theorem dX5_inspector_228 : decode cX5_inspector 228 = .ok (.aload_n 0, 1) := by decide +kernel
theorem dX5_inspector_229 : decode cX5_inspector 229 = .ok (.getfield 60, 3) := by decide +kernel
theorem dX5_inspector_232 : decode cX5_inspector 232 = .ok (.iload 5, 2) := by decide +kernel
theorem dX5_inspector_234 : decode cX5_inspector 234 = .ok (.iconst 2, 1) := by decide +kernel
theorem dX5_inspector_235 : decode cX5_inspector 235 = .ok (.ixor, 1) := by decide +kernel
theorem dX5_inspector_236 : decode cX5_inspector 236 = .ok (.iaload, 1) := by decide +kernel
theorem dX5_inspector_237 : decode cX5_inspector 237 = .ok (.if_icmp .lt 7, 3) := by decide +kernel
theorem dX5_inspector_240 : decode cX5_inspector 240 = .ok (.iconst 1, 1) := by decide +kernel
theorem dX5_inspector_241 : decode cX5_inspector 241 = .ok (.goto 4, 3) := by decide +kernel
theorem dX5_inspector_244 : decode cX5_inspector 244 = .ok (.iconst 0, 1) := by decide +kernel
theorem dX5_inspector_245 : decode cX5_inspector 245 = .ok (.istore 6, 2) := by decide +kernel
theorem dX5_inspector_247 : decode cX5_inspector 247 = .ok (.iload 4, 2) := by decide +kernel
theorem dX5_inspector_249 : decode cX5_inspector 249 = .ok (.iload 6, 2) := by decide +kernel
theorem dX5_inspector_251 : decode cX5_inspector 251 = .ok (.ifCond .eq 10, 3) := by decide +kernel
theorem dX5_inspector_254 : decode cX5_inspector 254 = .ok (.iconst 1, 1) := by decide +kernel
theorem dX5_inspector_255 : decode cX5_inspector 255 = .ok (.iload 5, 2) := by decide +kernel
theorem dX5_inspector_257 : decode cX5_inspector 257 = .ok (.ishl, 1) := by decide +kernel
theorem dX5_inspector_258 : decode cX5_inspector 258 = .ok (.goto 4, 3) := by decide +kernel
theorem dX5_inspector_261 : decode cX5_inspector 261 = .ok (.iconst 0, 1) := by decide +kernel
theorem dX5_inspector_262 : decode cX5_inspector 262 = .ok (.ior, 1) := by decide +kernel
theorem dX5_inspector_263 : decode cX5_inspector 263 = .ok (.istore 4, 2) := by decide +kernel
theorem dX5_inspector_265 : decode cX5_inspector 265 = .ok (.iinc 5 1, 3) := by decide +kernel
theorem dX5_inspector_268 : decode cX5_inspector 268 = .ok (.goto (-72), 3) := by decide +kernel
theorem dX5_inspector_271 : decode cX5_inspector 271 = .ok (.iload 4, 2) := by decide +kernel
theorem dX5_inspector_273 : decode cX5_inspector 273 = .ok (.ireturn, 1) := by decide +kernel
theorem dX5_fraction_0 : decode cX5_fraction 0 = .ok (.lload_n 1, 1) := by decide +kernel
theorem dX5_fraction_1 : decode cX5_fraction 1 = .ok (.lstore 5, 2) := by decide +kernel
theorem dX5_fraction_3 : decode cX5_fraction 3 = .ok (.lload_n 3, 1) := by decide +kernel
theorem dX5_fraction_4 : decode cX5_fraction 4 = .ok (.lstore 7, 2) := by decide +kernel
theorem dX5_fraction_6 : decode cX5_fraction 6 = .ok (.lload 7, 2) := by decide +kernel
theorem dX5_fraction_8 : decode cX5_fraction 8 = .ok (.lconst 0, 1) := by decide +kernel
theorem dX5_fraction_9 : decode cX5_fraction 9 = .ok (.lcmp, 1) := by decide +kernel
theorem dX5_fraction_10 : decode cX5_fraction 10 = .ok (.ifCond .eq 21, 3) := by decide +kernel
theorem dX5_fraction_13 : decode cX5_fraction 13 = .ok (.lload 5, 2) := by decide +kernel
theorem dX5_fraction_15 : decode cX5_fraction 15 = .ok (.lload 7, 2) := by decide +kernel
theorem dX5_fraction_17 : decode cX5_fraction 17 = .ok (.lrem, 1) := by decide +kernel
theorem dX5_fraction_18 : decode cX5_fraction 18 = .ok (.lstore 9, 2) := by decide +kernel
theorem dX5_fraction_20 : decode cX5_fraction 20 = .ok (.lload 7, 2) := by decide +kernel
theorem dX5_fraction_22 : decode cX5_fraction 22 = .ok (.lstore 5, 2) := by decide +kernel
theorem dX5_fraction_24 : decode cX5_fraction 24 = .ok (.lload 9, 2) := by decide +kernel
theorem dX5_fraction_26 : decode cX5_fraction 26 = .ok (.lstore 7, 2) := by decide +kernel
theorem dX5_fraction_28 : decode cX5_fraction 28 = .ok (.goto (-22), 3) := by decide +kernel
theorem dX5_fraction_31 : decode cX5_fraction 31 = .ok (.aload_n 0, 1) := by decide +kernel
theorem dX5_fraction_32 : decode cX5_fraction 32 = .ok (.lload_n 1, 1) := by decide +kernel
theorem dX5_fraction_33 : decode cX5_fraction 33 = .ok (.lload 5, 2) := by decide +kernel
theorem dX5_fraction_35 : decode cX5_fraction 35 = .ok (.ldiv, 1) := by decide +kernel
theorem dX5_fraction_36 : decode cX5_fraction 36 = .ok (.putfield 194, 3) := by decide +kernel
theorem dX5_fraction_39 : decode cX5_fraction 39 = .ok (.aload_n 0, 1) := by decide +kernel
theorem dX5_fraction_40 : decode cX5_fraction 40 = .ok (.lload_n 3, 1) := by decide +kernel
theorem dX5_fraction_41 : decode cX5_fraction 41 = .ok (.lload 5, 2) := by decide +kernel
theorem dX5_fraction_43 : decode cX5_fraction 43 = .ok (.ldiv, 1) := by decide +kernel
theorem dX5_fraction_44 : decode cX5_fraction 44 = .ok (.putfield 23, 3) := by decide +kernel
theorem dX5_fraction_47 : decode cX5_fraction 47 = .ok (.return_, 1) := by decide +kernel
theorem dX5_noons_0 : decode cX5_noons 0 = .ok (.aload_n 0, 1) := by decide +kernel
theorem dX5_noons_1 : decode cX5_noons 1 = .ok (.iload_n 1, 1) := by decide +kernel
theorem dX5_noons_2 : decode cX5_noons 2 = .ok (.invokevirtual 148, 3) := by decide +kernel
theorem dX5_noons_5 : decode cX5_noons 5 = .ok (.ifCond .eq 22, 3) := by decide +kernel
theorem dX5_noons_8 : decode cX5_noons 8 = .ok (.iload_n 2, 1) := by decide +kernel
theorem dX5_noons_9 : decode cX5_noons 9 = .ok (.invokestatic 156, 3) := by decide +kernel
theorem dX5_noons_12 : decode cX5_noons 12 = .ok (.ifCond .eq 15, 3) := by decide +kernel
theorem dX5_noons_15 : decode cX5_noons 15 = .ok (.iload_n 3, 1) := by decide +kernel
theorem dX5_noons_16 : decode cX5_noons 16 = .ok (.i2l, 1) := by decide +kernel
theorem dX5_noons_17 : decode cX5_noons 17 = .ok (.lconst 0, 1) := by decide +kernel
theorem dX5_noons_18 : decode cX5_noons 18 = .ok (.ldc2_w 197, 3) := by decide +kernel
theorem dX5_noons_21 : decode cX5_noons 21 = .ok (.invokestatic 80, 3) := by decide +kernel
theorem dX5_noons_24 : decode cX5_noons 24 = .ok (.ifCond .ne 10, 3) := by decide +kernel
theorem dX5_noons_27 : decode cX5_noons 27 = .ok (.aload_n 0, 1) := by decide +kernel
theorem dX5_noons_28 : decode cX5_noons 28 = .ok (.bipush (-2), 2) := by decide +kernel
theorem dX5_noons_30 : decode cX5_noons 30 = .ok (.invokevirtual 94, 3) := by decide +kernel
theorem dX5_noons_33 : decode cX5_noons 33 = .ok (.ireturn, 1) := by decide +kernel
theorem dX5_noons_34 : decode cX5_noons 34 = .ok (.aload_n 0, 1) := by decide +kernel
theorem dX5_noons_35 : decode cX5_noons 35 = .ok (.aload_n 0, 1) := by decide +kernel
theorem dX5_noons_36 : decode cX5_noons 36 = .ok (.getfield 7, 3) := by decide +kernel
theorem dX5_noons_39 : decode cX5_noons 39 = .ok (.iload_n 2, 1) := by decide +kernel
theorem dX5_noons_40 : decode cX5_noons 40 = .ok (.aload_n 0, 1) := by decide +kernel
theorem dX5_noons_41 : decode cX5_noons 41 = .ok (.getfield 7, 3) := by decide +kernel
theorem dX5_noons_44 : decode cX5_noons 44 = .ok (.bipush 24, 2) := by decide +kernel
theorem dX5_noons_46 : decode cX5_noons 46 = .ok (.iaload, 1) := by decide +kernel
theorem dX5_noons_47 : decode cX5_noons 47 = .ok (.aload_n 0, 1) := by decide +kernel
theorem dX5_noons_48 : decode cX5_noons 48 = .ok (.getfield 7, 3) := by decide +kernel
theorem dX5_noons_51 : decode cX5_noons 51 = .ok (.iload_n 2, 1) := by decide +kernel
theorem dX5_noons_52 : decode cX5_noons 52 = .ok (.invokestatic 124, 3) := by decide +kernel
theorem dX5_noons_55 : decode cX5_noons 55 = .ok (.invokevirtual 128, 3) := by decide +kernel
theorem dX5_noons_58 : decode cX5_noons 58 = .ok (.bipush 10, 2) := by decide +kernel
theorem dX5_noons_60 : decode cX5_noons 60 = .ok (.iload_n 3, 1) := by decide +kernel
theorem dX5_noons_61 : decode cX5_noons 61 = .ok (.isub, 1) := by decide +kernel
theorem dX5_noons_62 : decode cX5_noons 62 = .ok (.aload_n 0, 1) := by decide +kernel
theorem dX5_noons_63 : decode cX5_noons 63 = .ok (.getfield 27, 3) := by decide +kernel
theorem dX5_noons_66 : decode cX5_noons 66 = .ok (.iload_n 1, 1) := by decide +kernel
theorem dX5_noons_67 : decode cX5_noons 67 = .ok (.iaload, 1) := by decide +kernel
theorem dX5_noons_68 : decode cX5_noons 68 = .ok (.imul, 1) := by decide +kernel
theorem dX5_noons_69 : decode cX5_noons 69 = .ok (.istore 4, 2) := by decide +kernel
theorem dX5_noons_71 : decode cX5_noons 71 = .ok (.aload_n 0, 1) := by decide +kernel
theorem dX5_noons_72 : decode cX5_noons 72 = .ok (.aload_n 0, 1) := by decide +kernel
theorem dX5_noons_73 : decode cX5_noons 73 = .ok (.getfield 7, 3) := by decide +kernel
theorem dX5_noons_76 : decode cX5_noons 76 = .ok (.iload_n 2, 1) := by decide +kernel
theorem dX5_noons_77 : decode cX5_noons 77 = .ok (.aload_n 0, 1) := by decide +kernel
theorem dX5_noons_78 : decode cX5_noons 78 = .ok (.getfield 7, 3) := by decide +kernel
theorem dX5_noons_81 : decode cX5_noons 81 = .ok (.bipush 24, 2) := by decide +kernel
theorem dX5_noons_83 : decode cX5_noons 83 = .ok (.iaload, 1) := by decide +kernel
theorem dX5_noons_84 : decode cX5_noons 84 = .ok (.iconst 2, 1) := by decide +kernel
theorem dX5_noons_85 : decode cX5_noons 85 = .ok (.idiv, 1) := by decide +kernel
theorem dX5_noons_86 : decode cX5_noons 86 = .ok (.aload_n 0, 1) := by decide +kernel
theorem dX5_noons_87 : decode cX5_noons 87 = .ok (.getfield 7, 3) := by decide +kernel
theorem dX5_noons_90 : decode cX5_noons 90 = .ok (.iload_n 2, 1) := by decide +kernel
theorem dX5_noons_91 : decode cX5_noons 91 = .ok (.invokestatic 124, 3) := by decide +kernel
theorem dX5_noons_94 : decode cX5_noons 94 = .ok (.invokevirtual 128, 3) := by decide +kernel
theorem dX5_noons_97 : decode cX5_noons 97 = .ok (.aload_n 0, 1) := by decide +kernel
theorem dX5_noons_98 : decode cX5_noons 98 = .ok (.iload 4, 2) := by decide +kernel
theorem dX5_noons_100 : decode cX5_noons 100 = .ok (.iload_n 3, 1) := by decide +kernel
theorem dX5_noons_101 : decode cX5_noons 101 = .ok (.aload_n 0, 1) := by decide +kernel
theorem dX5_noons_102 : decode cX5_noons 102 = .ok (.getfield 27, 3) := by decide +kernel
theorem dX5_noons_105 : decode cX5_noons 105 = .ok (.iload_n 1, 1) := by decide +kernel
theorem dX5_noons_106 : decode cX5_noons 106 = .ok (.iaload, 1) := by decide +kernel
theorem dX5_noons_107 : decode cX5_noons 107 = .ok (.imul, 1) := by decide +kernel
theorem dX5_noons_108 : decode cX5_noons 108 = .ok (.iadd, 1) := by decide +kernel
theorem dX5_noons_109 : decode cX5_noons 109 = .ok (.i2l, 1) := by decide +kernel
theorem dX5_noons_110 : decode cX5_noons 110 = .ok (.ldc2_w 197, 3) := by decide +kernel
theorem dX5_noons_113 : decode cX5_noons 113 = .ok (.invokevirtual 199, 3) := by decide +kernel
theorem dX5_noons_116 : decode cX5_noons 116 = .ok (.iconst 1, 1) := by decide +kernel
theorem dX5_noons_117 : decode cX5_noons 117 = .ok (.ireturn, 1) := by decide +kernel
theorem dX5_years_0 : decode cX5_years 0 = .ok (.iload_n 1, 1) := by decide +kernel
theorem dX5_years_1 : decode cX5_years 1 = .ok (.i2l, 1) := by decide +kernel
theorem dX5_years_2 : decode cX5_years 2 = .ok (.lconst 0, 1) := by decide +kernel
theorem dX5_years_3 : decode cX5_years 3 = .ok (.ldc2_w 203, 3) := by decide +kernel
theorem dX5_years_6 : decode cX5_years 6 = .ok (.invokestatic 80, 3) := by decide +kernel
theorem dX5_years_9 : decode cX5_years 9 = .ok (.ifCond .eq 15, 3) := by decide +kernel
theorem dX5_years_12 : decode cX5_years 12 = .ok (.iload_n 2, 1) := by decide +kernel
theorem dX5_years_13 : decode cX5_years 13 = .ok (.i2l, 1) := by decide +kernel
theorem dX5_years_14 : decode cX5_years 14 = .ok (.lconst 0, 1) := by decide +kernel
theorem dX5_years_15 : decode cX5_years 15 = .ok (.ldc2_w 86, 3) := by decide +kernel
theorem dX5_years_18 : decode cX5_years 18 = .ok (.invokestatic 80, 3) := by decide +kernel
theorem dX5_years_21 : decode cX5_years 21 = .ok (.ifCond .ne 10, 3) := by decide +kernel
theorem dX5_years_24 : decode cX5_years 24 = .ok (.aload_n 0, 1) := by decide +kernel
theorem dX5_years_25 : decode cX5_years 25 = .ok (.bipush (-2), 2) := by decide +kernel
theorem dX5_years_27 : decode cX5_years 27 = .ok (.invokevirtual 94, 3) := by decide +kernel
theorem dX5_years_30 : decode cX5_years 30 = .ok (.ireturn, 1) := by decide +kernel
theorem dX5_years_31 : decode cX5_years 31 = .ok (.iload_n 1, 1) := by decide +kernel
theorem dX5_years_32 : decode cX5_years 32 = .ok (.i2l, 1) := by decide +kernel
theorem dX5_years_33 : decode cX5_years 33 = .ok (.lstore_n 3, 1) := by decide +kernel
theorem dX5_years_34 : decode cX5_years 34 = .ok (.iconst 0, 1) := by decide +kernel
theorem dX5_years_35 : decode cX5_years 35 = .ok (.istore 5, 2) := by decide +kernel
theorem dX5_years_37 : decode cX5_years 37 = .ok (.iconst 0, 1) := by decide +kernel
theorem dX5_years_38 : decode cX5_years 38 = .ok (.istore 6, 2) := by decide +kernel
theorem dX5_years_40 : decode cX5_years 40 = .ok (.iload 6, 2) := by decide +kernel
theorem dX5_years_42 : decode cX5_years 42 = .ok (.iload_n 2, 1) := by decide +kernel
theorem dX5_years_43 : decode cX5_years 43 = .ok (.if_icmp .ge 55, 3) := by decide +kernel
theorem dX5_years_46 : decode cX5_years 46 = .ok (.lload_n 3, 1) := by decide +kernel
theorem dX5_years_47 : decode cX5_years 47 = .ok (.ldc2_w 205, 3) := by decide +kernel
theorem dX5_years_50 : decode cX5_years 50 = .ok (.lmul, 1) := by decide +kernel
theorem dX5_years_51 : decode cX5_years 51 = .ok (.ldc2_w 207, 3) := by decide +kernel
theorem dX5_years_54 : decode cX5_years 54 = .ok (.ladd, 1) := by decide +kernel
theorem dX5_years_55 : decode cX5_years 55 = .ok (.ldc2_w 209, 3) := by decide +kernel
theorem dX5_years_58 : decode cX5_years 58 = .ok (.lrem, 1) := by decide +kernel
theorem dX5_years_59 : decode cX5_years 59 = .ok (.lstore_n 3, 1) := by decide +kernel
theorem dX5_years_60 : decode cX5_years 60 = .ok (.aload_n 0, 1) := by decide +kernel
theorem dX5_years_61 : decode cX5_years 61 = .ok (.aload_n 0, 1) := by decide +kernel
theorem dX5_years_62 : decode cX5_years 62 = .ok (.getfield 7, 3) := by decide +kernel
theorem dX5_years_65 : decode cX5_years 65 = .ok (.lload_n 3, 1) := by decide +kernel
theorem dX5_years_66 : decode cX5_years 66 = .ok (.ldc2_w 211, 3) := by decide +kernel
theorem dX5_years_69 : decode cX5_years 69 = .ok (.ldiv, 1) := by decide +kernel
theorem dX5_years_70 : decode cX5_years 70 = .ok (.ldc2_w 213, 3) := by decide +kernel
theorem dX5_years_73 : decode cX5_years 73 = .ok (.lrem, 1) := by decide +kernel
theorem dX5_years_74 : decode cX5_years 74 = .ok (.l2i, 1) := by decide +kernel
theorem dX5_years_75 : decode cX5_years 75 = .ok (.iconst 0, 1) := by decide +kernel
theorem dX5_years_76 : decode cX5_years 76 = .ok (.invokevirtual 135, 3) := by decide +kernel
theorem dX5_years_79 : decode cX5_years 79 = .ok (.iload 5, 2) := by decide +kernel
theorem dX5_years_81 : decode cX5_years 81 = .ok (.aload_n 0, 1) := by decide +kernel
theorem dX5_years_82 : decode cX5_years 82 = .ok (.aload_n 0, 1) := by decide +kernel
theorem dX5_years_83 : decode cX5_years 83 = .ok (.getfield 33, 3) := by decide +kernel
theorem dX5_years_86 : decode cX5_years 86 = .ok (.invokevirtual 163, 3) := by decide +kernel
theorem dX5_years_89 : decode cX5_years 89 = .ok (.iadd, 1) := by decide +kernel
theorem dX5_years_90 : decode cX5_years 90 = .ok (.istore 5, 2) := by decide +kernel
theorem dX5_years_92 : decode cX5_years 92 = .ok (.iinc 6 1, 3) := by decide +kernel
theorem dX5_years_95 : decode cX5_years 95 = .ok (.goto (-55), 3) := by decide +kernel
theorem dX5_years_98 : decode cX5_years 98 = .ok (.iload 5, 2) := by decide +kernel
theorem dX5_years_100 : decode cX5_years 100 = .ok (.ireturn, 1) := by decide +kernel
theorem dX5_type_0 : decode cX5_type 0 = .ok (.iload_n 1, 1) := by decide +kernel
theorem dX5_type_1 : decode cX5_type 1 = .ok (.i2l, 1) := by decide +kernel
theorem dX5_type_2 : decode cX5_type 2 = .ok (.lconst 0, 1) := by decide +kernel
theorem dX5_type_3 : decode cX5_type 3 = .ok (.ldc2_w 215, 3) := by decide +kernel
theorem dX5_type_6 : decode cX5_type 6 = .ok (.invokestatic 80, 3) := by decide +kernel
theorem dX5_type_9 : decode cX5_type 9 = .ok (.ifCond .ne 10, 3) := by decide +kernel
theorem dX5_type_12 : decode cX5_type 12 = .ok (.aload_n 0, 1) := by decide +kernel
theorem dX5_type_13 : decode cX5_type 13 = .ok (.bipush (-2), 2) := by decide +kernel
theorem dX5_type_15 : decode cX5_type 15 = .ok (.invokevirtual 94, 3) := by decide +kernel
theorem dX5_type_18 : decode cX5_type 18 = .ok (.ireturn, 1) := by decide +kernel
theorem dX5_type_19 : decode cX5_type 19 = .ok (.aload_n 0, 1) := by decide +kernel
theorem dX5_type_20 : decode cX5_type 20 = .ok (.getfield 217, 3) := by decide +kernel
theorem dX5_type_23 : decode cX5_type 23 = .ok (.sipush 150, 3) := by decide +kernel
theorem dX5_type_26 : decode cX5_type 26 = .ok (.if_icmp .ne 8, 3) := by decide +kernel
theorem dX5_type_29 : decode cX5_type 29 = .ok (.aload_n 0, 1) := by decide +kernel
theorem dX5_type_30 : decode cX5_type 30 = .ok (.invokevirtual 105, 3) := by decide +kernel
theorem dX5_type_33 : decode cX5_type 33 = .ok (.ireturn, 1) := by decide +kernel
theorem dX5_type_34 : decode cX5_type 34 = .ok (.aload_n 0, 1) := by decide +kernel
theorem dX5_type_35 : decode cX5_type 35 = .ok (.getfield 63, 3) := by decide +kernel
theorem dX5_type_38 : decode cX5_type 38 = .ok (.aload_n 0, 1) := by decide +kernel
theorem dX5_type_39 : decode cX5_type 39 = .ok (.getfield 217, 3) := by decide +kernel
theorem dX5_type_42 : decode cX5_type 42 = .ok (.iload_n 1, 1) := by decide +kernel
theorem dX5_type_43 : decode cX5_type 43 = .ok (.iastore, 1) := by decide +kernel
theorem dX5_type_44 : decode cX5_type 44 = .ok (.aload_n 0, 1) := by decide +kernel
theorem dX5_type_45 : decode cX5_type 45 = .ok (.dup, 1) := by decide +kernel
theorem dX5_type_46 : decode cX5_type 46 = .ok (.getfield 217, 3) := by decide +kernel
theorem dX5_type_49 : decode cX5_type 49 = .ok (.iconst 1, 1) := by decide +kernel
theorem dX5_type_50 : decode cX5_type 50 = .ok (.iadd, 1) := by decide +kernel
theorem dX5_type_51 : decode cX5_type 51 = .ok (.putfield 217, 3) := by decide +kernel
theorem dX5_type_54 : decode cX5_type 54 = .ok (.aload_n 0, 1) := by decide +kernel
theorem dX5_type_55 : decode cX5_type 55 = .ok (.getfield 217, 3) := by decide +kernel
theorem dX5_type_58 : decode cX5_type 58 = .ok (.ireturn, 1) := by decide +kernel
theorem dX5_clear_0 : decode cX5_clear 0 = .ok (.aload_n 0, 1) := by decide +kernel
theorem dX5_clear_1 : decode cX5_clear 1 = .ok (.getfield 217, 3) := by decide +kernel
theorem dX5_clear_4 : decode cX5_clear 4 = .ok (.istore_n 1, 1) := by decide +kernel
theorem dX5_clear_5 : decode cX5_clear 5 = .ok (.aload_n 0, 1) := by decide +kernel
theorem dX5_clear_6 : decode cX5_clear 6 = .ok (.iconst 0, 1) := by decide +kernel
theorem dX5_clear_7 : decode cX5_clear 7 = .ok (.putfield 217, 3) := by decide +kernel
theorem dX5_clear_10 : decode cX5_clear 10 = .ok (.iload_n 1, 1) := by decide +kernel
theorem dX5_clear_11 : decode cX5_clear 11 = .ok (.ireturn, 1) := by decide +kernel
theorem dX5_isSmall_0 : decode cX5_isSmall 0 = .ok (.iload_n 0, 1) := by decide +kernel
theorem dX5_isSmall_1 : decode cX5_isSmall 1 = .ok (.i2l, 1) := by decide +kernel
theorem dX5_isSmall_2 : decode cX5_isSmall 2 = .ok (.ldc2_w 220, 3) := by decide +kernel
theorem dX5_isSmall_5 : decode cX5_isSmall 5 = .ok (.ldc2_w 222, 3) := by decide +kernel
theorem dX5_isSmall_8 : decode cX5_isSmall 8 = .ok (.invokestatic 80, 3) := by decide +kernel
theorem dX5_isSmall_11 : decode cX5_isSmall 11 = .ok (.ireturn, 1) := by decide +kernel
theorem dX5_isFigure_0 : decode cX5_isFigure 0 = .ok (.iload_n 0, 1) := by decide +kernel
theorem dX5_isFigure_1 : decode cX5_isFigure 1 = .ok (.i2l, 1) := by decide +kernel
theorem dX5_isFigure_2 : decode cX5_isFigure 2 = .ok (.ldc2_w 224, 3) := by decide +kernel
theorem dX5_isFigure_5 : decode cX5_isFigure 5 = .ok (.ldc2_w 226, 3) := by decide +kernel
theorem dX5_isFigure_8 : decode cX5_isFigure 8 = .ok (.invokestatic 80, 3) := by decide +kernel
theorem dX5_isFigure_11 : decode cX5_isFigure 11 = .ok (.ireturn, 1) := by decide +kernel
theorem dX5_lookAt_0 : decode cX5_lookAt 0 = .ok (.aload_n 0, 1) := by decide +kernel
theorem dX5_lookAt_1 : decode cX5_lookAt 1 = .ok (.iload_n 1, 1) := by decide +kernel
theorem dX5_lookAt_2 : decode cX5_lookAt 2 = .ok (.putfield 228, 3) := by decide +kernel
theorem dX5_lookAt_5 : decode cX5_lookAt 5 = .ok (.aload_n 0, 1) := by decide +kernel
theorem dX5_lookAt_6 : decode cX5_lookAt 6 = .ok (.getfield 228, 3) := by decide +kernel
theorem dX5_lookAt_9 : decode cX5_lookAt 9 = .ok (.aload_n 0, 1) := by decide +kernel
theorem dX5_lookAt_10 : decode cX5_lookAt 10 = .ok (.getfield 217, 3) := by decide +kernel
theorem dX5_lookAt_13 : decode cX5_lookAt 13 = .ok (.if_icmp .ge 30, 3) := by decide +kernel
theorem dX5_lookAt_16 : decode cX5_lookAt 16 = .ok (.aload_n 0, 1) := by decide +kernel
theorem dX5_lookAt_17 : decode cX5_lookAt 17 = .ok (.getfield 63, 3) := by decide +kernel
theorem dX5_lookAt_20 : decode cX5_lookAt 20 = .ok (.aload_n 0, 1) := by decide +kernel
theorem dX5_lookAt_21 : decode cX5_lookAt 21 = .ok (.getfield 228, 3) := by decide +kernel
theorem dX5_lookAt_24 : decode cX5_lookAt 24 = .ok (.iaload, 1) := by decide +kernel
theorem dX5_lookAt_25 : decode cX5_lookAt 25 = .ok (.bipush 32, 2) := by decide +kernel
theorem dX5_lookAt_27 : decode cX5_lookAt 27 = .ok (.if_icmp .ne 16, 3) := by decide +kernel
theorem dX5_lookAt_30 : decode cX5_lookAt 30 = .ok (.aload_n 0, 1) := by decide +kernel
theorem dX5_lookAt_31 : decode cX5_lookAt 31 = .ok (.dup, 1) := by decide +kernel
theorem dX5_lookAt_32 : decode cX5_lookAt 32 = .ok (.getfield 228, 3) := by decide +kernel
theorem dX5_lookAt_35 : decode cX5_lookAt 35 = .ok (.iconst 1, 1) := by decide +kernel
theorem dX5_lookAt_36 : decode cX5_lookAt 36 = .ok (.iadd, 1) := by decide +kernel
theorem dX5_lookAt_37 : decode cX5_lookAt 37 = .ok (.putfield 228, 3) := by decide +kernel
theorem dX5_lookAt_40 : decode cX5_lookAt 40 = .ok (.goto (-35), 3) := by decide +kernel
theorem dX5_lookAt_43 : decode cX5_lookAt 43 = .ok (.aload_n 0, 1) := by decide +kernel
theorem dX5_lookAt_44 : decode cX5_lookAt 44 = .ok (.iconst 0, 1) := by decide +kernel
theorem dX5_lookAt_45 : decode cX5_lookAt 45 = .ok (.putfield 231, 3) := by decide +kernel
theorem dX5_lookAt_48 : decode cX5_lookAt 48 = .ok (.aload_n 0, 1) := by decide +kernel
theorem dX5_lookAt_49 : decode cX5_lookAt 49 = .ok (.iconst 0, 1) := by decide +kernel
theorem dX5_lookAt_50 : decode cX5_lookAt 50 = .ok (.putfield 234, 3) := by decide +kernel
theorem dX5_lookAt_53 : decode cX5_lookAt 53 = .ok (.aload_n 0, 1) := by decide +kernel
theorem dX5_lookAt_54 : decode cX5_lookAt 54 = .ok (.iconst 0, 1) := by decide +kernel
theorem dX5_lookAt_55 : decode cX5_lookAt 55 = .ok (.putfield 237, 3) := by decide +kernel
theorem dX5_lookAt_58 : decode cX5_lookAt 58 = .ok (.aload_n 0, 1) := by decide +kernel
theorem dX5_lookAt_59 : decode cX5_lookAt 59 = .ok (.getfield 228, 3) := by decide +kernel
theorem dX5_lookAt_62 : decode cX5_lookAt 62 = .ok (.aload_n 0, 1) := by decide +kernel
theorem dX5_lookAt_63 : decode cX5_lookAt 63 = .ok (.getfield 217, 3) := by decide +kernel
theorem dX5_lookAt_66 : decode cX5_lookAt 66 = .ok (.if_icmp .ne 4, 3) := by decide +kernel
theorem dX5_lookAt_69 : decode cX5_lookAt 69 = .ok (.return_, 1) := by decide +kernel
theorem dX5_lookAt_70 : decode cX5_lookAt 70 = .ok (.aload_n 0, 1) := by decide +kernel
theorem dX5_lookAt_71 : decode cX5_lookAt 71 = .ok (.getfield 63, 3) := by decide +kernel
theorem dX5_lookAt_74 : decode cX5_lookAt 74 = .ok (.aload_n 0, 1) := by decide +kernel
theorem dX5_lookAt_75 : decode cX5_lookAt 75 = .ok (.getfield 228, 3) := by decide +kernel
theorem dX5_lookAt_78 : decode cX5_lookAt 78 = .ok (.iaload, 1) := by decide +kernel
theorem dX5_lookAt_79 : decode cX5_lookAt 79 = .ok (.istore_n 2, 1) := by decide +kernel
theorem dX5_lookAt_80 : decode cX5_lookAt 80 = .ok (.aload_n 0, 1) := by decide +kernel
theorem dX5_lookAt_81 : decode cX5_lookAt 81 = .ok (.iload_n 2, 1) := by decide +kernel
theorem dX5_lookAt_82 : decode cX5_lookAt 82 = .ok (.invokestatic 240, 3) := by decide +kernel
theorem dX5_lookAt_85 : decode cX5_lookAt 85 = .ok (.ifCond .eq 7, 3) := by decide +kernel
theorem dX5_lookAt_88 : decode cX5_lookAt 88 = .ok (.iconst 1, 1) := by decide +kernel
theorem dX5_lookAt_89 : decode cX5_lookAt 89 = .ok (.goto 25, 3) := by decide +kernel
theorem dX5_lookAt_92 : decode cX5_lookAt 92 = .ok (.iload_n 2, 1) := by decide +kernel
theorem dX5_lookAt_93 : decode cX5_lookAt 93 = .ok (.invokestatic 243, 3) := by decide +kernel
theorem dX5_lookAt_96 : decode cX5_lookAt 96 = .ok (.ifCond .eq 7, 3) := by decide +kernel
theorem dX5_lookAt_99 : decode cX5_lookAt 99 = .ok (.iconst 2, 1) := by decide +kernel
theorem dX5_lookAt_100 : decode cX5_lookAt 100 = .ok (.goto 14, 3) := by decide +kernel
theorem dX5_lookAt_103 : decode cX5_lookAt 103 = .ok (.iload_n 2, 1) := by decide +kernel
theorem dX5_lookAt_104 : decode cX5_lookAt 104 = .ok (.bipush 59, 2) := by decide +kernel
theorem dX5_lookAt_106 : decode cX5_lookAt 106 = .ok (.if_icmp .ne 7, 3) := by decide +kernel
theorem dX5_lookAt_109 : decode cX5_lookAt 109 = .ok (.iconst 3, 1) := by decide +kernel
theorem dX5_lookAt_110 : decode cX5_lookAt 110 = .ok (.goto 4, 3) := by decide +kernel
theorem dX5_lookAt_113 : decode cX5_lookAt 113 = .ok (.iconst 4, 1) := by decide +kernel
theorem dX5_lookAt_114 : decode cX5_lookAt 114 = .ok (.putfield 234, 3) := by decide +kernel
theorem dX5_lookAt_117 : decode cX5_lookAt 117 = .ok (.aload_n 0, 1) := by decide +kernel
theorem dX5_lookAt_118 : decode cX5_lookAt 118 = .ok (.iconst 1, 1) := by decide +kernel
theorem dX5_lookAt_119 : decode cX5_lookAt 119 = .ok (.putfield 231, 3) := by decide +kernel
theorem dX5_lookAt_122 : decode cX5_lookAt 122 = .ok (.aload_n 0, 1) := by decide +kernel
theorem dX5_lookAt_123 : decode cX5_lookAt 123 = .ok (.getfield 234, 3) := by decide +kernel
theorem dX5_lookAt_126 : decode cX5_lookAt 126 = .ok (.iconst 3, 1) := by decide +kernel
theorem dX5_lookAt_127 : decode cX5_lookAt 127 = .ok (.if_icmp .ge 7, 3) := by decide +kernel
theorem dX5_lookAt_130 : decode cX5_lookAt 130 = .ok (.iconst 1, 1) := by decide +kernel
theorem dX5_lookAt_131 : decode cX5_lookAt 131 = .ok (.goto 4, 3) := by decide +kernel
theorem dX5_lookAt_134 : decode cX5_lookAt 134 = .ok (.iconst 0, 1) := by decide +kernel
theorem dX5_lookAt_135 : decode cX5_lookAt 135 = .ok (.istore_n 3, 1) := by decide +kernel
theorem dX5_lookAt_136 : decode cX5_lookAt 136 = .ok (.iload_n 3, 1) := by decide +kernel
theorem dX5_lookAt_137 : decode cX5_lookAt 137 = .ok (.ifCond .eq 78, 3) := by decide +kernel
theorem dX5_lookAt_140 : decode cX5_lookAt 140 = .ok (.aload_n 0, 1) := by decide +kernel
theorem dX5_lookAt_141 : decode cX5_lookAt 141 = .ok (.getfield 228, 3) := by decide +kernel
theorem dX5_lookAt_144 : decode cX5_lookAt 144 = .ok (.aload_n 0, 1) := by decide +kernel
theorem dX5_lookAt_145 : decode cX5_lookAt 145 = .ok (.getfield 231, 3) := by decide +kernel
theorem dX5_lookAt_148 : decode cX5_lookAt 148 = .ok (.iadd, 1) := by decide +kernel
theorem dX5_lookAt_149 : decode cX5_lookAt 149 = .ok (.aload_n 0, 1) := by decide +kernel
theorem dX5_lookAt_150 : decode cX5_lookAt 150 = .ok (.getfield 217, 3) := by decide +kernel
theorem dX5_lookAt_153 : decode cX5_lookAt 153 = .ok (.if_icmp .ge 62, 3) := by decide +kernel
theorem dX5_lookAt_156 : decode cX5_lookAt 156 = .ok (.aload_n 0, 1) := by decide +kernel
theorem dX5_lookAt_157 : decode cX5_lookAt 157 = .ok (.getfield 63, 3) := by decide +kernel
theorem dX5_lookAt_160 : decode cX5_lookAt 160 = .ok (.aload_n 0, 1) := by decide +kernel
theorem dX5_lookAt_161 : decode cX5_lookAt 161 = .ok (.getfield 228, 3) := by decide +kernel
theorem dX5_lookAt_164 : decode cX5_lookAt 164 = .ok (.aload_n 0, 1) := by decide +kernel
theorem dX5_lookAt_165 : decode cX5_lookAt 165 = .ok (.getfield 231, 3) := by decide +kernel
theorem dX5_lookAt_168 : decode cX5_lookAt 168 = .ok (.iadd, 1) := by decide +kernel
theorem dX5_lookAt_169 : decode cX5_lookAt 169 = .ok (.iaload, 1) := by decide +kernel
theorem dX5_lookAt_170 : decode cX5_lookAt 170 = .ok (.istore 4, 2) := by decide +kernel
theorem dX5_lookAt_172 : decode cX5_lookAt 172 = .ok (.aload_n 0, 1) := by decide +kernel
theorem dX5_lookAt_173 : decode cX5_lookAt 173 = .ok (.getfield 234, 3) := by decide +kernel
theorem dX5_lookAt_176 : decode cX5_lookAt 176 = .ok (.iconst 1, 1) := by decide +kernel
theorem dX5_lookAt_177 : decode cX5_lookAt 177 = .ok (.if_icmp .ne 11, 3) := by decide +kernel
theorem dX5_lookAt_180 : decode cX5_lookAt 180 = .ok (.iload 4, 2) := by decide +kernel
theorem dX5_lookAt_182 : decode cX5_lookAt 182 = .ok (.invokestatic 240, 3) := by decide +kernel
theorem dX5_lookAt_185 : decode cX5_lookAt 185 = .ok (.goto 8, 3) := by decide +kernel
theorem dX5_lookAt_188 : decode cX5_lookAt 188 = .ok (.iload 4, 2) := by decide +kernel
theorem dX5_lookAt_190 : decode cX5_lookAt 190 = .ok (.invokestatic 243, 3) := by decide +kernel
theorem dX5_lookAt_193 : decode cX5_lookAt 193 = .ok (.istore_n 3, 1) := by decide +kernel
theorem dX5_lookAt_194 : decode cX5_lookAt 194 = .ok (.aload_n 0, 1) := by decide +kernel
theorem dX5_lookAt_195 : decode cX5_lookAt 195 = .ok (.dup, 1) := by decide +kernel
theorem dX5_lookAt_196 : decode cX5_lookAt 196 = .ok (.getfield 231, 3) := by decide +kernel
theorem dX5_lookAt_199 : decode cX5_lookAt 199 = .ok (.iload_n 3, 1) := by decide +kernel
theorem dX5_lookAt_200 : decode cX5_lookAt 200 = .ok (.ifCond .eq 7, 3) := by decide +kernel
theorem dX5_lookAt_203 : decode cX5_lookAt 203 = .ok (.iconst 1, 1) := by decide +kernel
theorem dX5_lookAt_204 : decode cX5_lookAt 204 = .ok (.goto 4, 3) := by decide +kernel
theorem dX5_lookAt_207 : decode cX5_lookAt 207 = .ok (.iconst 0, 1) := by decide +kernel
theorem dX5_lookAt_208 : decode cX5_lookAt 208 = .ok (.iadd, 1) := by decide +kernel
theorem dX5_lookAt_209 : decode cX5_lookAt 209 = .ok (.putfield 231, 3) := by decide +kernel
theorem dX5_lookAt_212 : decode cX5_lookAt 212 = .ok (.goto (-76), 3) := by decide +kernel
theorem dX5_lookAt_215 : decode cX5_lookAt 215 = .ok (.iconst 0, 1) := by decide +kernel
theorem dX5_lookAt_216 : decode cX5_lookAt 216 = .ok (.istore 4, 2) := by decide +kernel
theorem dX5_lookAt_218 : decode cX5_lookAt 218 = .ok (.iload 4, 2) := by decide +kernel
theorem dX5_lookAt_220 : decode cX5_lookAt 220 = .ok (.aload_n 0, 1) := by decide +kernel
theorem dX5_lookAt_221 : decode cX5_lookAt 221 = .ok (.getfield 231, 3) := by decide +kernel
theorem dX5_lookAt_224 : decode cX5_lookAt 224 = .ok (.if_icmp .ge 50, 3) := by decide +kernel
theorem dX5_lookAt_227 : decode cX5_lookAt 227 = .ok (.iload 4, 2) := by decide +kernel
theorem dX5_lookAt_229 : decode cX5_lookAt 229 = .ok (.iconst 2, 1) := by decide +kernel
theorem dX5_lookAt_230 : decode cX5_lookAt 230 = .ok (.if_icmp .ge 44, 3) := by decide +kernel
theorem dX5_lookAt_233 : decode cX5_lookAt 233 = .ok (.aload_n 0, 1) := by decide +kernel
theorem dX5_lookAt_234 : decode cX5_lookAt 234 = .ok (.getfield 234, 3) := by decide +kernel
theorem dX5_lookAt_237 : decode cX5_lookAt 237 = .ok (.iconst 2, 1) := by decide +kernel
theorem dX5_lookAt_238 : decode cX5_lookAt 238 = .ok (.if_icmp .ne 36, 3) := by decide +kernel
theorem dX5_lookAt_241 : decode cX5_lookAt 241 = .ok (.aload_n 0, 1) := by decide +kernel
theorem dX5_lookAt_242 : decode cX5_lookAt 242 = .ok (.bipush 10, 2) := by decide +kernel
theorem dX5_lookAt_244 : decode cX5_lookAt 244 = .ok (.aload_n 0, 1) := by decide +kernel
theorem dX5_lookAt_245 : decode cX5_lookAt 245 = .ok (.getfield 237, 3) := by decide +kernel
theorem dX5_lookAt_248 : decode cX5_lookAt 248 = .ok (.imul, 1) := by decide +kernel
theorem dX5_lookAt_249 : decode cX5_lookAt 249 = .ok (.aload_n 0, 1) := by decide +kernel
theorem dX5_lookAt_250 : decode cX5_lookAt 250 = .ok (.getfield 63, 3) := by decide +kernel
theorem dX5_lookAt_253 : decode cX5_lookAt 253 = .ok (.aload_n 0, 1) := by decide +kernel
theorem dX5_lookAt_254 : decode cX5_lookAt 254 = .ok (.getfield 228, 3) := by decide +kernel
theorem dX5_lookAt_257 : decode cX5_lookAt 257 = .ok (.iload 4, 2) := by decide +kernel
theorem dX5_lookAt_259 : decode cX5_lookAt 259 = .ok (.iadd, 1) := by decide +kernel
theorem dX5_lookAt_260 : decode cX5_lookAt 260 = .ok (.iaload, 1) := by decide +kernel
theorem dX5_lookAt_261 : decode cX5_lookAt 261 = .ok (.iadd, 1) := by decide +kernel
theorem dX5_lookAt_262 : decode cX5_lookAt 262 = .ok (.bipush 48, 2) := by decide +kernel
theorem dX5_lookAt_264 : decode cX5_lookAt 264 = .ok (.isub, 1) := by decide +kernel
theorem dX5_lookAt_265 : decode cX5_lookAt 265 = .ok (.putfield 237, 3) := by decide +kernel
theorem dX5_lookAt_268 : decode cX5_lookAt 268 = .ok (.iinc 4 1, 3) := by decide +kernel
theorem dX5_lookAt_271 : decode cX5_lookAt 271 = .ok (.goto (-53), 3) := by decide +kernel
theorem dX5_lookAt_274 : decode cX5_lookAt 274 = .ok (.aload_n 0, 1) := by decide +kernel
theorem dX5_lookAt_275 : decode cX5_lookAt 275 = .ok (.aload_n 0, 1) := by decide +kernel
theorem dX5_lookAt_276 : decode cX5_lookAt 276 = .ok (.getfield 234, 3) := by decide +kernel
theorem dX5_lookAt_279 : decode cX5_lookAt 279 = .ok (.iconst 2, 1) := by decide +kernel
theorem dX5_lookAt_280 : decode cX5_lookAt 280 = .ok (.if_icmp .ne 15, 3) := by decide +kernel
theorem dX5_lookAt_283 : decode cX5_lookAt 283 = .ok (.aload_n 0, 1) := by decide +kernel
theorem dX5_lookAt_284 : decode cX5_lookAt 284 = .ok (.getfield 231, 3) := by decide +kernel
theorem dX5_lookAt_287 : decode cX5_lookAt 287 = .ok (.iconst 2, 1) := by decide +kernel
theorem dX5_lookAt_288 : decode cX5_lookAt 288 = .ok (.if_icmp .le 7, 3) := by decide +kernel
theorem dX5_lookAt_291 : decode cX5_lookAt 291 = .ok (.iconst 4, 1) := by decide +kernel
theorem dX5_lookAt_292 : decode cX5_lookAt 292 = .ok (.goto 7, 3) := by decide +kernel
theorem dX5_lookAt_295 : decode cX5_lookAt 295 = .ok (.aload_n 0, 1) := by decide +kernel
theorem dX5_lookAt_296 : decode cX5_lookAt 296 = .ok (.getfield 234, 3) := by decide +kernel
theorem dX5_lookAt_299 : decode cX5_lookAt 299 = .ok (.putfield 234, 3) := by decide +kernel
theorem dX5_lookAt_302 : decode cX5_lookAt 302 = .ok (.return_, 1) := by decide +kernel
theorem dX5_goBehind_0 : decode cX5_goBehind 0 = .ok (.aload_n 0, 1) := by decide +kernel
theorem dX5_goBehind_1 : decode cX5_goBehind 1 = .ok (.aload_n 0, 1) := by decide +kernel
theorem dX5_goBehind_2 : decode cX5_goBehind 2 = .ok (.getfield 228, 3) := by decide +kernel
theorem dX5_goBehind_5 : decode cX5_goBehind 5 = .ok (.aload_n 0, 1) := by decide +kernel
theorem dX5_goBehind_6 : decode cX5_goBehind 6 = .ok (.getfield 231, 3) := by decide +kernel
theorem dX5_goBehind_9 : decode cX5_goBehind 9 = .ok (.iadd, 1) := by decide +kernel
theorem dX5_goBehind_10 : decode cX5_goBehind 10 = .ok (.invokevirtual 246, 3) := by decide +kernel
theorem dX5_goBehind_13 : decode cX5_goBehind 13 = .ok (.return_, 1) := by decide +kernel
theorem dX5_spells_0 : decode cX5_spells 0 = .ok (.aload_n 0, 1) := by decide +kernel
theorem dX5_spells_1 : decode cX5_spells 1 = .ok (.getfield 234, 3) := by decide +kernel
theorem dX5_spells_4 : decode cX5_spells 4 = .ok (.iconst 1, 1) := by decide +kernel
theorem dX5_spells_5 : decode cX5_spells 5 = .ok (.if_icmp .ne 15, 3) := by decide +kernel
theorem dX5_spells_8 : decode cX5_spells 8 = .ok (.aload_n 0, 1) := by decide +kernel
theorem dX5_spells_9 : decode cX5_spells 9 = .ok (.getfield 231, 3) := by decide +kernel
theorem dX5_spells_12 : decode cX5_spells 12 = .ok (.iload_n 1, 1) := by decide +kernel
theorem dX5_spells_13 : decode cX5_spells 13 = .ok (.if_icmp .ne 7, 3) := by decide +kernel
theorem dX5_spells_16 : decode cX5_spells 16 = .ok (.iconst 1, 1) := by decide +kernel
theorem dX5_spells_17 : decode cX5_spells 17 = .ok (.goto 4, 3) := by decide +kernel
theorem dX5_spells_20 : decode cX5_spells 20 = .ok (.iconst 0, 1) := by decide +kernel
theorem dX5_spells_21 : decode cX5_spells 21 = .ok (.istore 8, 2) := by decide +kernel
theorem dX5_spells_23 : decode cX5_spells 23 = .ok (.iconst 0, 1) := by decide +kernel
theorem dX5_spells_24 : decode cX5_spells 24 = .ok (.istore 9, 2) := by decide +kernel
theorem dX5_spells_26 : decode cX5_spells 26 = .ok (.iload 9, 2) := by decide +kernel
theorem dX5_spells_28 : decode cX5_spells 28 = .ok (.iload_n 1, 1) := by decide +kernel
theorem dX5_spells_29 : decode cX5_spells 29 = .ok (.if_icmp .ge 90, 3) := by decide +kernel
theorem dX5_spells_32 : decode cX5_spells 32 = .ok (.iload 8, 2) := by decide +kernel
theorem dX5_spells_34 : decode cX5_spells 34 = .ok (.ifCond .eq 85, 3) := by decide +kernel
theorem dX5_spells_37 : decode cX5_spells 37 = .ok (.aload_n 0, 1) := by decide +kernel
theorem dX5_spells_38 : decode cX5_spells 38 = .ok (.getfield 63, 3) := by decide +kernel
theorem dX5_spells_41 : decode cX5_spells 41 = .ok (.aload_n 0, 1) := by decide +kernel
theorem dX5_spells_42 : decode cX5_spells 42 = .ok (.getfield 228, 3) := by decide +kernel
theorem dX5_spells_45 : decode cX5_spells 45 = .ok (.iload 9, 2) := by decide +kernel
theorem dX5_spells_47 : decode cX5_spells 47 = .ok (.iadd, 1) := by decide +kernel
theorem dX5_spells_48 : decode cX5_spells 48 = .ok (.iaload, 1) := by decide +kernel
theorem dX5_spells_49 : decode cX5_spells 49 = .ok (.iload 9, 2) := by decide +kernel
theorem dX5_spells_51 : decode cX5_spells 51 = .ok (.ifCond .ne 7, 3) := by decide +kernel
theorem dX5_spells_54 : decode cX5_spells 54 = .ok (.iload_n 2, 1) := by decide +kernel
theorem dX5_spells_55 : decode cX5_spells 55 = .ok (.goto 48, 3) := by decide +kernel
theorem dX5_spells_58 : decode cX5_spells 58 = .ok (.iload 9, 2) := by decide +kernel
theorem dX5_spells_60 : decode cX5_spells 60 = .ok (.iconst 1, 1) := by decide +kernel
theorem dX5_spells_61 : decode cX5_spells 61 = .ok (.if_icmp .ne 7, 3) := by decide +kernel
theorem dX5_spells_64 : decode cX5_spells 64 = .ok (.iload_n 3, 1) := by decide +kernel
theorem dX5_spells_65 : decode cX5_spells 65 = .ok (.goto 38, 3) := by decide +kernel
theorem dX5_spells_68 : decode cX5_spells 68 = .ok (.iload 9, 2) := by decide +kernel
theorem dX5_spells_70 : decode cX5_spells 70 = .ok (.iconst 2, 1) := by decide +kernel
theorem dX5_spells_71 : decode cX5_spells 71 = .ok (.if_icmp .ne 8, 3) := by decide +kernel
theorem dX5_spells_74 : decode cX5_spells 74 = .ok (.iload 4, 2) := by decide +kernel
theorem dX5_spells_76 : decode cX5_spells 76 = .ok (.goto 27, 3) := by decide +kernel
theorem dX5_spells_79 : decode cX5_spells 79 = .ok (.iload 9, 2) := by decide +kernel
theorem dX5_spells_81 : decode cX5_spells 81 = .ok (.iconst 3, 1) := by decide +kernel
theorem dX5_spells_82 : decode cX5_spells 82 = .ok (.if_icmp .ne 8, 3) := by decide +kernel
theorem dX5_spells_85 : decode cX5_spells 85 = .ok (.iload 5, 2) := by decide +kernel
theorem dX5_spells_87 : decode cX5_spells 87 = .ok (.goto 16, 3) := by decide +kernel
theorem dX5_spells_90 : decode cX5_spells 90 = .ok (.iload 9, 2) := by decide +kernel
theorem dX5_spells_92 : decode cX5_spells 92 = .ok (.iconst 4, 1) := by decide +kernel
theorem dX5_spells_93 : decode cX5_spells 93 = .ok (.if_icmp .ne 8, 3) := by decide +kernel
theorem dX5_spells_96 : decode cX5_spells 96 = .ok (.iload 6, 2) := by decide +kernel
theorem dX5_spells_98 : decode cX5_spells 98 = .ok (.goto 5, 3) := by decide +kernel
theorem dX5_spells_101 : decode cX5_spells 101 = .ok (.iload 7, 2) := by decide +kernel
theorem dX5_spells_103 : decode cX5_spells 103 = .ok (.if_icmp .ne 7, 3) := by decide +kernel
theorem dX5_spells_106 : decode cX5_spells 106 = .ok (.iconst 1, 1) := by decide +kernel
theorem dX5_spells_107 : decode cX5_spells 107 = .ok (.goto 4, 3) := by decide +kernel
theorem dX5_spells_110 : decode cX5_spells 110 = .ok (.iconst 0, 1) := by decide +kernel
theorem dX5_spells_111 : decode cX5_spells 111 = .ok (.istore 8, 2) := by decide +kernel
theorem dX5_spells_113 : decode cX5_spells 113 = .ok (.iinc 9 1, 3) := by decide +kernel
theorem dX5_spells_116 : decode cX5_spells 116 = .ok (.goto (-90), 3) := by decide +kernel
theorem dX5_spells_119 : decode cX5_spells 119 = .ok (.iload 8, 2) := by decide +kernel
theorem dX5_spells_121 : decode cX5_spells 121 = .ok (.ireturn, 1) := by decide +kernel
theorem dX5_takes_0 : decode cX5_takes 0 = .ok (.aload_n 0, 1) := by decide +kernel
theorem dX5_takes_1 : decode cX5_takes 1 = .ok (.getfield 234, 3) := by decide +kernel
theorem dX5_takes_4 : decode cX5_takes 4 = .ok (.iconst 2, 1) := by decide +kernel
theorem dX5_takes_5 : decode cX5_takes 5 = .ok (.if_icmp .ne 18, 3) := by decide +kernel
theorem dX5_takes_8 : decode cX5_takes 8 = .ok (.aload_n 0, 1) := by decide +kernel
theorem dX5_takes_9 : decode cX5_takes 9 = .ok (.getfield 237, 3) := by decide +kernel
theorem dX5_takes_12 : decode cX5_takes 12 = .ok (.i2l, 1) := by decide +kernel
theorem dX5_takes_13 : decode cX5_takes 13 = .ok (.iload_n 2, 1) := by decide +kernel
theorem dX5_takes_14 : decode cX5_takes 14 = .ok (.i2l, 1) := by decide +kernel
theorem dX5_takes_15 : decode cX5_takes 15 = .ok (.iload_n 3, 1) := by decide +kernel
theorem dX5_takes_16 : decode cX5_takes 16 = .ok (.i2l, 1) := by decide +kernel
theorem dX5_takes_17 : decode cX5_takes 17 = .ok (.invokestatic 80, 3) := by decide +kernel
theorem dX5_takes_20 : decode cX5_takes 20 = .ok (.ifCond .ne 5, 3) := by decide +kernel
theorem dX5_takes_23 : decode cX5_takes 23 = .ok (.iconst 0, 1) := by decide +kernel
theorem dX5_takes_24 : decode cX5_takes 24 = .ok (.ireturn, 1) := by decide +kernel
theorem dX5_takes_25 : decode cX5_takes 25 = .ok (.aload_n 0, 1) := by decide +kernel
theorem dX5_takes_26 : decode cX5_takes 26 = .ok (.getfield 69, 3) := by decide +kernel
theorem dX5_takes_29 : decode cX5_takes 29 = .ok (.iload_n 1, 1) := by decide +kernel
theorem dX5_takes_30 : decode cX5_takes 30 = .ok (.aload_n 0, 1) := by decide +kernel
theorem dX5_takes_31 : decode cX5_takes 31 = .ok (.getfield 237, 3) := by decide +kernel
theorem dX5_takes_34 : decode cX5_takes 34 = .ok (.iastore, 1) := by decide +kernel
theorem dX5_takes_35 : decode cX5_takes 35 = .ok (.aload_n 0, 1) := by decide +kernel
theorem dX5_takes_36 : decode cX5_takes 36 = .ok (.invokevirtual 249, 3) := by decide +kernel
theorem dX5_takes_39 : decode cX5_takes 39 = .ok (.iconst 1, 1) := by decide +kernel
theorem dX5_takes_40 : decode cX5_takes 40 = .ok (.ireturn, 1) := by decide +kernel
theorem dX5_takesHours_0 : decode cX5_takesHours 0 = .ok (.aload_n 0, 1) := by decide +kernel
theorem dX5_takesHours_1 : decode cX5_takesHours 1 = .ok (.iconst 0, 1) := by decide +kernel
theorem dX5_takesHours_2 : decode cX5_takesHours 2 = .ok (.putfield 252, 3) := by decide +kernel
theorem dX5_takesHours_5 : decode cX5_takesHours 5 = .ok (.aload_n 0, 1) := by decide +kernel
theorem dX5_takesHours_6 : decode cX5_takesHours 6 = .ok (.getfield 234, 3) := by decide +kernel
theorem dX5_takesHours_9 : decode cX5_takesHours 9 = .ok (.iconst 2, 1) := by decide +kernel
theorem dX5_takesHours_10 : decode cX5_takesHours 10 = .ok (.if_icmp .ne 35, 3) := by decide +kernel
theorem dX5_takesHours_13 : decode cX5_takesHours 13 = .ok (.aload_n 0, 1) := by decide +kernel
theorem dX5_takesHours_14 : decode cX5_takesHours 14 = .ok (.getfield 237, 3) := by decide +kernel
theorem dX5_takesHours_17 : decode cX5_takesHours 17 = .ok (.invokestatic 156, 3) := by decide +kernel
theorem dX5_takesHours_20 : decode cX5_takesHours 20 = .ok (.ifCond .eq 25, 3) := by decide +kernel
theorem dX5_takesHours_23 : decode cX5_takesHours 23 = .ok (.aload_n 0, 1) := by decide +kernel
theorem dX5_takesHours_24 : decode cX5_takesHours 24 = .ok (.dup, 1) := by decide +kernel
theorem dX5_takesHours_25 : decode cX5_takesHours 25 = .ok (.getfield 252, 3) := by decide +kernel
theorem dX5_takesHours_28 : decode cX5_takesHours 28 = .ok (.iconst 1, 1) := by decide +kernel
theorem dX5_takesHours_29 : decode cX5_takesHours 29 = .ok (.aload_n 0, 1) := by decide +kernel
theorem dX5_takesHours_30 : decode cX5_takesHours 30 = .ok (.getfield 237, 3) := by decide +kernel
theorem dX5_takesHours_33 : decode cX5_takesHours 33 = .ok (.ishl, 1) := by decide +kernel
theorem dX5_takesHours_34 : decode cX5_takesHours 34 = .ok (.ior, 1) := by decide +kernel
theorem dX5_takesHours_35 : decode cX5_takesHours 35 = .ok (.putfield 252, 3) := by decide +kernel
theorem dX5_takesHours_38 : decode cX5_takesHours 38 = .ok (.aload_n 0, 1) := by decide +kernel
theorem dX5_takesHours_39 : decode cX5_takesHours 39 = .ok (.invokevirtual 249, 3) := by decide +kernel
theorem dX5_takesHours_42 : decode cX5_takesHours 42 = .ok (.goto (-37), 3) := by decide +kernel
theorem dX5_takesHours_45 : decode cX5_takesHours 45 = .ok (.aload_n 0, 1) := by decide +kernel
theorem dX5_takesHours_46 : decode cX5_takesHours 46 = .ok (.getfield 234, 3) := by decide +kernel
theorem dX5_takesHours_49 : decode cX5_takesHours 49 = .ok (.iconst 3, 1) := by decide +kernel
theorem dX5_takesHours_50 : decode cX5_takesHours 50 = .ok (.if_icmp .ne 7, 3) := by decide +kernel
theorem dX5_takesHours_53 : decode cX5_takesHours 53 = .ok (.iconst 1, 1) := by decide +kernel
theorem dX5_takesHours_54 : decode cX5_takesHours 54 = .ok (.goto 4, 3) := by decide +kernel
theorem dX5_takesHours_57 : decode cX5_takesHours 57 = .ok (.iconst 0, 1) := by decide +kernel
theorem dX5_takesHours_58 : decode cX5_takesHours 58 = .ok (.ireturn, 1) := by decide +kernel
theorem dX5_takesMain_0 : decode cX5_takesMain 0 = .ok (.aload_n 0, 1) := by decide +kernel
theorem dX5_takesMain_1 : decode cX5_takesMain 1 = .ok (.iconst 4, 1) := by decide +kernel
theorem dX5_takesMain_2 : decode cX5_takesMain 2 = .ok (.bipush 109, 2) := by decide +kernel
theorem dX5_takesMain_4 : decode cX5_takesMain 4 = .ok (.bipush 97, 2) := by decide +kernel
theorem dX5_takesMain_6 : decode cX5_takesMain 6 = .ok (.bipush 105, 2) := by decide +kernel
theorem dX5_takesMain_8 : decode cX5_takesMain 8 = .ok (.bipush 110, 2) := by decide +kernel
theorem dX5_takesMain_10 : decode cX5_takesMain 10 = .ok (.iconst 0, 1) := by decide +kernel
theorem dX5_takesMain_11 : decode cX5_takesMain 11 = .ok (.iconst 0, 1) := by decide +kernel
theorem dX5_takesMain_12 : decode cX5_takesMain 12 = .ok (.invokevirtual 255, 3) := by decide +kernel
theorem dX5_takesMain_15 : decode cX5_takesMain 15 = .ok (.ifCond .ne 5, 3) := by decide +kernel
theorem dX5_takesMain_18 : decode cX5_takesMain 18 = .ok (.iconst 0, 1) := by decide +kernel
theorem dX5_takesMain_19 : decode cX5_takesMain 19 = .ok (.ireturn, 1) := by decide +kernel
theorem dX5_takesMain_20 : decode cX5_takesMain 20 = .ok (.aload_n 0, 1) := by decide +kernel
theorem dX5_takesMain_21 : decode cX5_takesMain 21 = .ok (.invokevirtual 249, 3) := by decide +kernel
theorem dX5_takesMain_24 : decode cX5_takesMain 24 = .ok (.aload_n 0, 1) := by decide +kernel
theorem dX5_takesMain_25 : decode cX5_takesMain 25 = .ok (.iconst 0, 1) := by decide +kernel
theorem dX5_takesMain_26 : decode cX5_takesMain 26 = .ok (.iconst 0, 1) := by decide +kernel
theorem dX5_takesMain_27 : decode cX5_takesMain 27 = .ok (.bipush 60, 2) := by decide +kernel
theorem dX5_takesMain_29 : decode cX5_takesMain 29 = .ok (.invokevirtual 259, 3) := by decide +kernel
theorem dX5_takesMain_32 : decode cX5_takesMain 32 = .ok (.ifCond .ne 5, 3) := by decide +kernel
theorem dX5_takesMain_35 : decode cX5_takesMain 35 = .ok (.iconst 0, 1) := by decide +kernel
theorem dX5_takesMain_36 : decode cX5_takesMain 36 = .ok (.ireturn, 1) := by decide +kernel
theorem dX5_takesMain_37 : decode cX5_takesMain 37 = .ok (.aload_n 0, 1) := by decide +kernel
theorem dX5_takesMain_38 : decode cX5_takesMain 38 = .ok (.getfield 66, 3) := by decide +kernel
theorem dX5_takesMain_41 : decode cX5_takesMain 41 = .ok (.aload_n 0, 1) := by decide +kernel
theorem dX5_takesMain_42 : decode cX5_takesMain 42 = .ok (.getfield 69, 3) := by decide +kernel
theorem dX5_takesMain_45 : decode cX5_takesMain 45 = .ok (.iconst 0, 1) := by decide +kernel
theorem dX5_takesMain_46 : decode cX5_takesMain 46 = .ok (.iaload, 1) := by decide +kernel
theorem dX5_takesMain_47 : decode cX5_takesMain 47 = .ok (.invokestatic 72, 3) := by decide +kernel
theorem dX5_takesMain_50 : decode cX5_takesMain 50 = .ok (.aload_n 0, 1) := by decide +kernel
theorem dX5_takesMain_51 : decode cX5_takesMain 51 = .ok (.getfield 234, 3) := by decide +kernel
theorem dX5_takesMain_54 : decode cX5_takesMain 54 = .ok (.iconst 3, 1) := by decide +kernel
theorem dX5_takesMain_55 : decode cX5_takesMain 55 = .ok (.if_icmp .ne 7, 3) := by decide +kernel
theorem dX5_takesMain_58 : decode cX5_takesMain 58 = .ok (.iconst 1, 1) := by decide +kernel
theorem dX5_takesMain_59 : decode cX5_takesMain 59 = .ok (.goto 4, 3) := by decide +kernel
theorem dX5_takesMain_62 : decode cX5_takesMain 62 = .ok (.iconst 0, 1) := by decide +kernel
theorem dX5_takesMain_63 : decode cX5_takesMain 63 = .ok (.ireturn, 1) := by decide +kernel
theorem dX5_takesWell_0 : decode cX5_takesWell 0 = .ok (.aload_n 0, 1) := by decide +kernel
theorem dX5_takesWell_1 : decode cX5_takesWell 1 = .ok (.getfield 66, 3) := by decide +kernel
theorem dX5_takesWell_4 : decode cX5_takesWell 4 = .ok (.iconst 0, 1) := by decide +kernel
theorem dX5_takesWell_5 : decode cX5_takesWell 5 = .ok (.iaload, 1) := by decide +kernel
theorem dX5_takesWell_6 : decode cX5_takesWell 6 = .ok (.iconst 5, 1) := by decide +kernel
theorem dX5_takesWell_7 : decode cX5_takesWell 7 = .ok (.if_icmp .ne 5, 3) := by decide +kernel
theorem dX5_takesWell_10 : decode cX5_takesWell 10 = .ok (.iconst 0, 1) := by decide +kernel
theorem dX5_takesWell_11 : decode cX5_takesWell 11 = .ok (.ireturn, 1) := by decide +kernel
theorem dX5_takesWell_12 : decode cX5_takesWell 12 = .ok (.aload_n 0, 1) := by decide +kernel
theorem dX5_takesWell_13 : decode cX5_takesWell 13 = .ok (.invokevirtual 249, 3) := by decide +kernel
theorem dX5_takesWell_16 : decode cX5_takesWell 16 = .ok (.aload_n 0, 1) := by decide +kernel
theorem dX5_takesWell_17 : decode cX5_takesWell 17 = .ok (.iconst 0, 1) := by decide +kernel
theorem dX5_takesWell_18 : decode cX5_takesWell 18 = .ok (.iconst 0, 1) := by decide +kernel
theorem dX5_takesWell_19 : decode cX5_takesWell 19 = .ok (.iconst 5, 1) := by decide +kernel
theorem dX5_takesWell_20 : decode cX5_takesWell 20 = .ok (.invokevirtual 259, 3) := by decide +kernel
theorem dX5_takesWell_23 : decode cX5_takesWell 23 = .ok (.ifCond .eq 21, 3) := by decide +kernel
theorem dX5_takesWell_26 : decode cX5_takesWell 26 = .ok (.aload_n 0, 1) := by decide +kernel
theorem dX5_takesWell_27 : decode cX5_takesWell 27 = .ok (.iconst 1, 1) := by decide +kernel
theorem dX5_takesWell_28 : decode cX5_takesWell 28 = .ok (.iconst 1, 1) := by decide +kernel
theorem dX5_takesWell_29 : decode cX5_takesWell 29 = .ok (.bipush 20, 2) := by decide +kernel
theorem dX5_takesWell_31 : decode cX5_takesWell 31 = .ok (.invokevirtual 259, 3) := by decide +kernel
theorem dX5_takesWell_34 : decode cX5_takesWell 34 = .ok (.ifCond .eq 10, 3) := by decide +kernel
theorem dX5_takesWell_37 : decode cX5_takesWell 37 = .ok (.aload_n 0, 1) := by decide +kernel
theorem dX5_takesWell_38 : decode cX5_takesWell 38 = .ok (.invokevirtual 263, 3) := by decide +kernel
theorem dX5_takesWell_41 : decode cX5_takesWell 41 = .ok (.ifCond .ne 5, 3) := by decide +kernel
theorem dX5_takesWell_44 : decode cX5_takesWell 44 = .ok (.iconst 0, 1) := by decide +kernel
theorem dX5_takesWell_45 : decode cX5_takesWell 45 = .ok (.ireturn, 1) := by decide +kernel
theorem dX5_takesWell_46 : decode cX5_takesWell 46 = .ok (.aload_n 0, 1) := by decide +kernel
theorem dX5_takesWell_47 : decode cX5_takesWell 47 = .ok (.getfield 66, 3) := by decide +kernel
theorem dX5_takesWell_50 : decode cX5_takesWell 50 = .ok (.aload_n 0, 1) := by decide +kernel
theorem dX5_takesWell_51 : decode cX5_takesWell 51 = .ok (.getfield 69, 3) := by decide +kernel
theorem dX5_takesWell_54 : decode cX5_takesWell 54 = .ok (.iconst 0, 1) := by decide +kernel
theorem dX5_takesWell_55 : decode cX5_takesWell 55 = .ok (.iaload, 1) := by decide +kernel
theorem dX5_takesWell_56 : decode cX5_takesWell 56 = .ok (.aload_n 0, 1) := by decide +kernel
theorem dX5_takesWell_57 : decode cX5_takesWell 57 = .ok (.getfield 69, 3) := by decide +kernel
theorem dX5_takesWell_60 : decode cX5_takesWell 60 = .ok (.iconst 1, 1) := by decide +kernel
theorem dX5_takesWell_61 : decode cX5_takesWell 61 = .ok (.iaload, 1) := by decide +kernel
theorem dX5_takesWell_62 : decode cX5_takesWell 62 = .ok (.aload_n 0, 1) := by decide +kernel
theorem dX5_takesWell_63 : decode cX5_takesWell 63 = .ok (.getfield 252, 3) := by decide +kernel
theorem dX5_takesWell_66 : decode cX5_takesWell 66 = .ok (.invokestatic 108, 3) := by decide +kernel
theorem dX5_takesWell_69 : decode cX5_takesWell 69 = .ok (.iconst 1, 1) := by decide +kernel
theorem dX5_takesWell_70 : decode cX5_takesWell 70 = .ok (.ireturn, 1) := by decide +kernel
theorem dX5_takesTurn_0 : decode cX5_takesTurn 0 = .ok (.aload_n 0, 1) := by decide +kernel
theorem dX5_takesTurn_1 : decode cX5_takesTurn 1 = .ok (.invokevirtual 249, 3) := by decide +kernel
theorem dX5_takesTurn_4 : decode cX5_takesTurn 4 = .ok (.aload_n 0, 1) := by decide +kernel
theorem dX5_takesTurn_5 : decode cX5_takesTurn 5 = .ok (.iconst 0, 1) := by decide +kernel
theorem dX5_takesTurn_6 : decode cX5_takesTurn 6 = .ok (.iconst 0, 1) := by decide +kernel
theorem dX5_takesTurn_7 : decode cX5_takesTurn 7 = .ok (.aload_n 0, 1) := by decide +kernel
theorem dX5_takesTurn_8 : decode cX5_takesTurn 8 = .ok (.getfield 66, 3) := by decide +kernel
theorem dX5_takesTurn_11 : decode cX5_takesTurn 11 = .ok (.iconst 0, 1) := by decide +kernel
theorem dX5_takesTurn_12 : decode cX5_takesTurn 12 = .ok (.iaload, 1) := by decide +kernel
theorem dX5_takesTurn_13 : decode cX5_takesTurn 13 = .ok (.iconst 1, 1) := by decide +kernel
theorem dX5_takesTurn_14 : decode cX5_takesTurn 14 = .ok (.isub, 1) := by decide +kernel
theorem dX5_takesTurn_15 : decode cX5_takesTurn 15 = .ok (.invokevirtual 259, 3) := by decide +kernel
theorem dX5_takesTurn_18 : decode cX5_takesTurn 18 = .ok (.ifCond .eq 10, 3) := by decide +kernel
theorem dX5_takesTurn_21 : decode cX5_takesTurn 21 = .ok (.aload_n 0, 1) := by decide +kernel
theorem dX5_takesTurn_22 : decode cX5_takesTurn 22 = .ok (.invokevirtual 263, 3) := by decide +kernel
theorem dX5_takesTurn_25 : decode cX5_takesTurn 25 = .ok (.ifCond .ne 5, 3) := by decide +kernel
theorem dX5_takesTurn_28 : decode cX5_takesTurn 28 = .ok (.iconst 0, 1) := by decide +kernel
theorem dX5_takesTurn_29 : decode cX5_takesTurn 29 = .ok (.ireturn, 1) := by decide +kernel
theorem dX5_takesTurn_30 : decode cX5_takesTurn 30 = .ok (.aload_n 0, 1) := by decide +kernel
theorem dX5_takesTurn_31 : decode cX5_takesTurn 31 = .ok (.getfield 66, 3) := by decide +kernel
theorem dX5_takesTurn_34 : decode cX5_takesTurn 34 = .ok (.bipush 14, 2) := by decide +kernel
theorem dX5_takesTurn_36 : decode cX5_takesTurn 36 = .ok (.aload_n 0, 1) := by decide +kernel
theorem dX5_takesTurn_37 : decode cX5_takesTurn 37 = .ok (.getfield 69, 3) := by decide +kernel
theorem dX5_takesTurn_40 : decode cX5_takesTurn 40 = .ok (.iconst 0, 1) := by decide +kernel
theorem dX5_takesTurn_41 : decode cX5_takesTurn 41 = .ok (.iaload, 1) := by decide +kernel
theorem dX5_takesTurn_42 : decode cX5_takesTurn 42 = .ok (.iadd, 1) := by decide +kernel
theorem dX5_takesTurn_43 : decode cX5_takesTurn 43 = .ok (.aload_n 0, 1) := by decide +kernel
theorem dX5_takesTurn_44 : decode cX5_takesTurn 44 = .ok (.getfield 252, 3) := by decide +kernel
theorem dX5_takesTurn_47 : decode cX5_takesTurn 47 = .ok (.iastore, 1) := by decide +kernel
theorem dX5_takesTurn_48 : decode cX5_takesTurn 48 = .ok (.iconst 1, 1) := by decide +kernel
theorem dX5_takesTurn_49 : decode cX5_takesTurn 49 = .ok (.ireturn, 1) := by decide +kernel
theorem dX5_takesDay_0 : decode cX5_takesDay 0 = .ok (.aload_n 0, 1) := by decide +kernel
theorem dX5_takesDay_1 : decode cX5_takesDay 1 = .ok (.invokevirtual 249, 3) := by decide +kernel
theorem dX5_takesDay_4 : decode cX5_takesDay 4 = .ok (.aload_n 0, 1) := by decide +kernel
theorem dX5_takesDay_5 : decode cX5_takesDay 5 = .ok (.aload_n 0, 1) := by decide +kernel
theorem dX5_takesDay_6 : decode cX5_takesDay 6 = .ok (.getfield 66, 3) := by decide +kernel
theorem dX5_takesDay_9 : decode cX5_takesDay 9 = .ok (.invokevirtual 144, 3) := by decide +kernel
theorem dX5_takesDay_12 : decode cX5_takesDay 12 = .ok (.ifCond .lt 7, 3) := by decide +kernel
theorem dX5_takesDay_15 : decode cX5_takesDay 15 = .ok (.iconst 1, 1) := by decide +kernel
theorem dX5_takesDay_16 : decode cX5_takesDay 16 = .ok (.goto 4, 3) := by decide +kernel
theorem dX5_takesDay_19 : decode cX5_takesDay 19 = .ok (.iconst 0, 1) := by decide +kernel
theorem dX5_takesDay_20 : decode cX5_takesDay 20 = .ok (.ireturn, 1) := by decide +kernel
theorem dX5_takesItem_0 : decode cX5_takesItem 0 = .ok (.aload_n 0, 1) := by decide +kernel
theorem dX5_takesItem_1 : decode cX5_takesItem 1 = .ok (.iconst 4, 1) := by decide +kernel
theorem dX5_takesItem_2 : decode cX5_takesItem 2 = .ok (.bipush 119, 2) := by decide +kernel
theorem dX5_takesItem_4 : decode cX5_takesItem 4 = .ok (.bipush 101, 2) := by decide +kernel
theorem dX5_takesItem_6 : decode cX5_takesItem 6 = .ok (.bipush 108, 2) := by decide +kernel
theorem dX5_takesItem_8 : decode cX5_takesItem 8 = .ok (.bipush 108, 2) := by decide +kernel
theorem dX5_takesItem_10 : decode cX5_takesItem 10 = .ok (.iconst 0, 1) := by decide +kernel
theorem dX5_takesItem_11 : decode cX5_takesItem 11 = .ok (.iconst 0, 1) := by decide +kernel
theorem dX5_takesItem_12 : decode cX5_takesItem 12 = .ok (.invokevirtual 255, 3) := by decide +kernel
theorem dX5_takesItem_15 : decode cX5_takesItem 15 = .ok (.ifCond .eq 8, 3) := by decide +kernel
theorem dX5_takesItem_18 : decode cX5_takesItem 18 = .ok (.aload_n 0, 1) := by decide +kernel
theorem dX5_takesItem_19 : decode cX5_takesItem 19 = .ok (.invokevirtual 267, 3) := by decide +kernel
theorem dX5_takesItem_22 : decode cX5_takesItem 22 = .ok (.ireturn, 1) := by decide +kernel
theorem dX5_takesItem_23 : decode cX5_takesItem 23 = .ok (.aload_n 0, 1) := by decide +kernel
theorem dX5_takesItem_24 : decode cX5_takesItem 24 = .ok (.iconst 4, 1) := by decide +kernel
theorem dX5_takesItem_25 : decode cX5_takesItem 25 = .ok (.bipush 116, 2) := by decide +kernel
theorem dX5_takesItem_27 : decode cX5_takesItem 27 = .ok (.bipush 117, 2) := by decide +kernel
theorem dX5_takesItem_29 : decode cX5_takesItem 29 = .ok (.bipush 114, 2) := by decide +kernel
theorem dX5_takesItem_31 : decode cX5_takesItem 31 = .ok (.bipush 110, 2) := by decide +kernel
theorem dX5_takesItem_33 : decode cX5_takesItem 33 = .ok (.iconst 0, 1) := by decide +kernel
theorem dX5_takesItem_34 : decode cX5_takesItem 34 = .ok (.iconst 0, 1) := by decide +kernel
theorem dX5_takesItem_35 : decode cX5_takesItem 35 = .ok (.invokevirtual 255, 3) := by decide +kernel
theorem dX5_takesItem_38 : decode cX5_takesItem 38 = .ok (.ifCond .eq 8, 3) := by decide +kernel
theorem dX5_takesItem_41 : decode cX5_takesItem 41 = .ok (.aload_n 0, 1) := by decide +kernel
theorem dX5_takesItem_42 : decode cX5_takesItem 42 = .ok (.invokevirtual 270, 3) := by decide +kernel
theorem dX5_takesItem_45 : decode cX5_takesItem 45 = .ok (.ireturn, 1) := by decide +kernel
theorem dX5_takesItem_46 : decode cX5_takesItem 46 = .ok (.aload_n 0, 1) := by decide +kernel
theorem dX5_takesItem_47 : decode cX5_takesItem 47 = .ok (.iconst 3, 1) := by decide +kernel
theorem dX5_takesItem_48 : decode cX5_takesItem 48 = .ok (.bipush 100, 2) := by decide +kernel
theorem dX5_takesItem_50 : decode cX5_takesItem 50 = .ok (.bipush 97, 2) := by decide +kernel
theorem dX5_takesItem_52 : decode cX5_takesItem 52 = .ok (.bipush 121, 2) := by decide +kernel
theorem dX5_takesItem_54 : decode cX5_takesItem 54 = .ok (.iconst 0, 1) := by decide +kernel
theorem dX5_takesItem_55 : decode cX5_takesItem 55 = .ok (.iconst 0, 1) := by decide +kernel
theorem dX5_takesItem_56 : decode cX5_takesItem 56 = .ok (.iconst 0, 1) := by decide +kernel
theorem dX5_takesItem_57 : decode cX5_takesItem 57 = .ok (.invokevirtual 255, 3) := by decide +kernel
theorem dX5_takesItem_60 : decode cX5_takesItem 60 = .ok (.ifCond .eq 14, 3) := by decide +kernel
theorem dX5_takesItem_63 : decode cX5_takesItem 63 = .ok (.aload_n 0, 1) := by decide +kernel
theorem dX5_takesItem_64 : decode cX5_takesItem 64 = .ok (.invokevirtual 273, 3) := by decide +kernel
theorem dX5_takesItem_67 : decode cX5_takesItem 67 = .ok (.ifCond .eq 7, 3) := by decide +kernel
theorem dX5_takesItem_70 : decode cX5_takesItem 70 = .ok (.iconst 1, 1) := by decide +kernel
theorem dX5_takesItem_71 : decode cX5_takesItem 71 = .ok (.goto 4, 3) := by decide +kernel
theorem dX5_takesItem_74 : decode cX5_takesItem 74 = .ok (.iconst 0, 1) := by decide +kernel
theorem dX5_takesItem_75 : decode cX5_takesItem 75 = .ok (.ireturn, 1) := by decide +kernel
theorem dX5_read_0 : decode cX5_read 0 = .ok (.aload_n 0, 1) := by decide +kernel
theorem dX5_read_1 : decode cX5_read 1 = .ok (.iconst 0, 1) := by decide +kernel
theorem dX5_read_2 : decode cX5_read 2 = .ok (.invokevirtual 246, 3) := by decide +kernel
theorem dX5_read_5 : decode cX5_read 5 = .ok (.aload_n 0, 1) := by decide +kernel
theorem dX5_read_6 : decode cX5_read 6 = .ok (.invokevirtual 276, 3) := by decide +kernel
theorem dX5_read_9 : decode cX5_read 9 = .ok (.ifCond .ne 11, 3) := by decide +kernel
theorem dX5_read_12 : decode cX5_read 12 = .ok (.bipush (-10), 2) := by decide +kernel
theorem dX5_read_14 : decode cX5_read 14 = .ok (.aload_n 0, 1) := by decide +kernel
theorem dX5_read_15 : decode cX5_read 15 = .ok (.getfield 228, 3) := by decide +kernel
theorem dX5_read_18 : decode cX5_read 18 = .ok (.isub, 1) := by decide +kernel
theorem dX5_read_19 : decode cX5_read 19 = .ok (.ireturn, 1) := by decide +kernel
theorem dX5_read_20 : decode cX5_read 20 = .ok (.aload_n 0, 1) := by decide +kernel
theorem dX5_read_21 : decode cX5_read 21 = .ok (.invokevirtual 249, 3) := by decide +kernel
theorem dX5_read_24 : decode cX5_read 24 = .ok (.iconst 1, 1) := by decide +kernel
theorem dX5_read_25 : decode cX5_read 25 = .ok (.istore_n 1, 1) := by decide +kernel
theorem dX5_read_26 : decode cX5_read 26 = .ok (.aload_n 0, 1) := by decide +kernel
theorem dX5_read_27 : decode cX5_read 27 = .ok (.getfield 234, 3) := by decide +kernel
theorem dX5_read_30 : decode cX5_read 30 = .ok (.ifCond .eq 36, 3) := by decide +kernel
theorem dX5_read_33 : decode cX5_read 33 = .ok (.aload_n 0, 1) := by decide +kernel
theorem dX5_read_34 : decode cX5_read 34 = .ok (.invokevirtual 279, 3) := by decide +kernel
theorem dX5_read_37 : decode cX5_read 37 = .ok (.ifCond .eq 11, 3) := by decide +kernel
theorem dX5_read_40 : decode cX5_read 40 = .ok (.aload_n 0, 1) := by decide +kernel
theorem dX5_read_41 : decode cX5_read 41 = .ok (.getfield 234, 3) := by decide +kernel
theorem dX5_read_44 : decode cX5_read 44 = .ok (.iconst 3, 1) := by decide +kernel
theorem dX5_read_45 : decode cX5_read 45 = .ok (.if_icmp .eq 11, 3) := by decide +kernel
theorem dX5_read_48 : decode cX5_read 48 = .ok (.bipush (-10), 2) := by decide +kernel
theorem dX5_read_50 : decode cX5_read 50 = .ok (.aload_n 0, 1) := by decide +kernel
theorem dX5_read_51 : decode cX5_read 51 = .ok (.getfield 228, 3) := by decide +kernel
theorem dX5_read_54 : decode cX5_read 54 = .ok (.isub, 1) := by decide +kernel
theorem dX5_read_55 : decode cX5_read 55 = .ok (.ireturn, 1) := by decide +kernel
theorem dX5_read_56 : decode cX5_read 56 = .ok (.aload_n 0, 1) := by decide +kernel
theorem dX5_read_57 : decode cX5_read 57 = .ok (.invokevirtual 249, 3) := by decide +kernel
theorem dX5_read_60 : decode cX5_read 60 = .ok (.iinc 1 1, 3) := by decide +kernel
theorem dX5_read_63 : decode cX5_read 63 = .ok (.goto (-37), 3) := by decide +kernel
theorem dX5_read_66 : decode cX5_read 66 = .ok (.iconst 0, 1) := by decide +kernel
theorem dX5_read_67 : decode cX5_read 67 = .ok (.istore_n 2, 1) := by decide +kernel
theorem dX5_read_68 : decode cX5_read 68 = .ok (.iload_n 2, 1) := by decide +kernel
theorem dX5_read_69 : decode cX5_read 69 = .ok (.bipush 75, 2) := by decide +kernel
theorem dX5_read_71 : decode cX5_read 71 = .ok (.if_icmp .ge 21, 3) := by decide +kernel
theorem dX5_read_74 : decode cX5_read 74 = .ok (.aload_n 0, 1) := by decide +kernel
theorem dX5_read_75 : decode cX5_read 75 = .ok (.getfield 7, 3) := by decide +kernel
theorem dX5_read_78 : decode cX5_read 78 = .ok (.iload_n 2, 1) := by decide +kernel
theorem dX5_read_79 : decode cX5_read 79 = .ok (.aload_n 0, 1) := by decide +kernel
theorem dX5_read_80 : decode cX5_read 80 = .ok (.getfield 66, 3) := by decide +kernel
theorem dX5_read_83 : decode cX5_read 83 = .ok (.iload_n 2, 1) := by decide +kernel
theorem dX5_read_84 : decode cX5_read 84 = .ok (.iaload, 1) := by decide +kernel
theorem dX5_read_85 : decode cX5_read 85 = .ok (.iastore, 1) := by decide +kernel
theorem dX5_read_86 : decode cX5_read 86 = .ok (.iinc 2 1, 3) := by decide +kernel
theorem dX5_read_89 : decode cX5_read 89 = .ok (.goto (-21), 3) := by decide +kernel
theorem dX5_read_92 : decode cX5_read 92 = .ok (.iload_n 1, 1) := by decide +kernel
theorem dX5_read_93 : decode cX5_read 93 = .ok (.ireturn, 1) := by decide +kernel
theorem dX5_part_0 : decode cX5_part 0 = .ok (.iload_n 1, 1) := by decide +kernel
theorem dX5_part_1 : decode cX5_part 1 = .ok (.ifCond .ne 10, 3) := by decide +kernel
theorem dX5_part_4 : decode cX5_part 4 = .ok (.aload_n 0, 1) := by decide +kernel
theorem dX5_part_5 : decode cX5_part 5 = .ok (.getfield 194, 3) := by decide +kernel
theorem dX5_part_8 : decode cX5_part 8 = .ok (.goto 22, 3) := by decide +kernel
theorem dX5_part_11 : decode cX5_part 11 = .ok (.iload_n 1, 1) := by decide +kernel
theorem dX5_part_12 : decode cX5_part 12 = .ok (.iconst 1, 1) := by decide +kernel
theorem dX5_part_13 : decode cX5_part 13 = .ok (.if_icmp .ne 10, 3) := by decide +kernel
theorem dX5_part_16 : decode cX5_part 16 = .ok (.aload_n 0, 1) := by decide +kernel
theorem dX5_part_17 : decode cX5_part 17 = .ok (.getfield 23, 3) := by decide +kernel
theorem dX5_part_20 : decode cX5_part 20 = .ok (.goto 10, 3) := by decide +kernel
theorem dX5_part_23 : decode cX5_part 23 = .ok (.aload_n 0, 1) := by decide +kernel
theorem dX5_part_24 : decode cX5_part 24 = .ok (.bipush (-2), 2) := by decide +kernel
theorem dX5_part_26 : decode cX5_part 26 = .ok (.invokevirtual 94, 3) := by decide +kernel
theorem dX5_part_29 : decode cX5_part 29 = .ok (.i2l, 1) := by decide +kernel
theorem dX5_part_30 : decode cX5_part 30 = .ok (.lreturn, 1) := by decide +kernel
theorem dX5_image_0 : decode cX5_image 0 = .ok (.iload_n 1, 1) := by decide +kernel
theorem dX5_image_1 : decode cX5_image 1 = .ok (.i2l, 1) := by decide +kernel
theorem dX5_image_2 : decode cX5_image 2 = .ok (.lconst 0, 1) := by decide +kernel
theorem dX5_image_3 : decode cX5_image 3 = .ok (.lconst 1, 1) := by decide +kernel
theorem dX5_image_4 : decode cX5_image 4 = .ok (.invokestatic 80, 3) := by decide +kernel
theorem dX5_image_7 : decode cX5_image 7 = .ok (.ifCond .ne 10, 3) := by decide +kernel
theorem dX5_image_10 : decode cX5_image 10 = .ok (.aload_n 0, 1) := by decide +kernel
theorem dX5_image_11 : decode cX5_image 11 = .ok (.bipush (-2), 2) := by decide +kernel
theorem dX5_image_13 : decode cX5_image 13 = .ok (.invokevirtual 94, 3) := by decide +kernel
theorem dX5_image_16 : decode cX5_image 16 = .ok (.ireturn, 1) := by decide +kernel
theorem dX5_image_17 : decode cX5_image 17 = .ok (.iconst 0, 1) := by decide +kernel
theorem dX5_image_18 : decode cX5_image 18 = .ok (.istore_n 2, 1) := by decide +kernel
theorem dX5_image_19 : decode cX5_image 19 = .ok (.iload_n 2, 1) := by decide +kernel
theorem dX5_image_20 : decode cX5_image 20 = .ok (.sipush 251, 3) := by decide +kernel
theorem dX5_image_23 : decode cX5_image 23 = .ok (.if_icmp .ge 27, 3) := by decide +kernel
theorem dX5_image_26 : decode cX5_image 26 = .ok (.aload_n 0, 1) := by decide +kernel
theorem dX5_image_27 : decode cX5_image 27 = .ok (.getfield 13, 3) := by decide +kernel
theorem dX5_image_30 : decode cX5_image 30 = .ok (.sipush 251, 3) := by decide +kernel
theorem dX5_image_33 : decode cX5_image 33 = .ok (.iload_n 1, 1) := by decide +kernel
theorem dX5_image_34 : decode cX5_image 34 = .ok (.imul, 1) := by decide +kernel
theorem dX5_image_35 : decode cX5_image 35 = .ok (.iload_n 2, 1) := by decide +kernel
theorem dX5_image_36 : decode cX5_image 36 = .ok (.iadd, 1) := by decide +kernel
theorem dX5_image_37 : decode cX5_image 37 = .ok (.aload_n 0, 1) := by decide +kernel
theorem dX5_image_38 : decode cX5_image 38 = .ok (.getfield 7, 3) := by decide +kernel
theorem dX5_image_41 : decode cX5_image 41 = .ok (.iload_n 2, 1) := by decide +kernel
theorem dX5_image_42 : decode cX5_image 42 = .ok (.iaload, 1) := by decide +kernel
theorem dX5_image_43 : decode cX5_image 43 = .ok (.iastore, 1) := by decide +kernel
theorem dX5_image_44 : decode cX5_image 44 = .ok (.iinc 2 1, 3) := by decide +kernel
theorem dX5_image_47 : decode cX5_image 47 = .ok (.goto (-28), 3) := by decide +kernel
theorem dX5_image_50 : decode cX5_image 50 = .ok (.aload_n 0, 1) := by decide +kernel
theorem dX5_image_51 : decode cX5_image 51 = .ok (.getfield 16, 3) := by decide +kernel
theorem dX5_image_54 : decode cX5_image 54 = .ok (.iload_n 1, 1) := by decide +kernel
theorem dX5_image_55 : decode cX5_image 55 = .ok (.iconst 1, 1) := by decide +kernel
theorem dX5_image_56 : decode cX5_image 56 = .ok (.bastore, 1) := by decide +kernel
theorem dX5_image_57 : decode cX5_image 57 = .ok (.iconst 1, 1) := by decide +kernel
theorem dX5_image_58 : decode cX5_image 58 = .ok (.ireturn, 1) := by decide +kernel
theorem dX5_from_0 : decode cX5_from 0 = .ok (.iload_n 1, 1) := by decide +kernel
theorem dX5_from_1 : decode cX5_from 1 = .ok (.i2l, 1) := by decide +kernel
theorem dX5_from_2 : decode cX5_from 2 = .ok (.lconst 0, 1) := by decide +kernel
theorem dX5_from_3 : decode cX5_from 3 = .ok (.lconst 1, 1) := by decide +kernel
theorem dX5_from_4 : decode cX5_from 4 = .ok (.invokestatic 80, 3) := by decide +kernel
theorem dX5_from_7 : decode cX5_from 7 = .ok (.ifCond .ne 10, 3) := by decide +kernel
theorem dX5_from_10 : decode cX5_from 10 = .ok (.aload_n 0, 1) := by decide +kernel
theorem dX5_from_11 : decode cX5_from 11 = .ok (.bipush (-2), 2) := by decide +kernel
theorem dX5_from_13 : decode cX5_from 13 = .ok (.invokevirtual 94, 3) := by decide +kernel
theorem dX5_from_16 : decode cX5_from 16 = .ok (.ireturn, 1) := by decide +kernel
theorem dX5_from_17 : decode cX5_from 17 = .ok (.aload_n 0, 1) := by decide +kernel
theorem dX5_from_18 : decode cX5_from 18 = .ok (.getfield 16, 3) := by decide +kernel
theorem dX5_from_21 : decode cX5_from 21 = .ok (.iload_n 1, 1) := by decide +kernel
theorem dX5_from_22 : decode cX5_from 22 = .ok (.baload, 1) := by decide +kernel
theorem dX5_from_23 : decode cX5_from 23 = .ok (.ifCond .ne 8, 3) := by decide +kernel
theorem dX5_from_26 : decode cX5_from 26 = .ok (.aload_n 0, 1) := by decide +kernel
theorem dX5_from_27 : decode cX5_from 27 = .ok (.invokevirtual 151, 3) := by decide +kernel
theorem dX5_from_30 : decode cX5_from 30 = .ok (.ireturn, 1) := by decide +kernel
theorem dX5_from_31 : decode cX5_from 31 = .ok (.iconst 0, 1) := by decide +kernel
theorem dX5_from_32 : decode cX5_from 32 = .ok (.istore_n 2, 1) := by decide +kernel
theorem dX5_from_33 : decode cX5_from 33 = .ok (.iload_n 2, 1) := by decide +kernel
theorem dX5_from_34 : decode cX5_from 34 = .ok (.sipush 251, 3) := by decide +kernel
theorem dX5_from_37 : decode cX5_from 37 = .ok (.if_icmp .ge 27, 3) := by decide +kernel
theorem dX5_from_40 : decode cX5_from 40 = .ok (.aload_n 0, 1) := by decide +kernel
theorem dX5_from_41 : decode cX5_from 41 = .ok (.getfield 7, 3) := by decide +kernel
theorem dX5_from_44 : decode cX5_from 44 = .ok (.iload_n 2, 1) := by decide +kernel
theorem dX5_from_45 : decode cX5_from 45 = .ok (.aload_n 0, 1) := by decide +kernel
theorem dX5_from_46 : decode cX5_from 46 = .ok (.getfield 13, 3) := by decide +kernel
theorem dX5_from_49 : decode cX5_from 49 = .ok (.sipush 251, 3) := by decide +kernel
theorem dX5_from_52 : decode cX5_from 52 = .ok (.iload_n 1, 1) := by decide +kernel
theorem dX5_from_53 : decode cX5_from 53 = .ok (.imul, 1) := by decide +kernel
theorem dX5_from_54 : decode cX5_from 54 = .ok (.iload_n 2, 1) := by decide +kernel
theorem dX5_from_55 : decode cX5_from 55 = .ok (.iadd, 1) := by decide +kernel
theorem dX5_from_56 : decode cX5_from 56 = .ok (.iaload, 1) := by decide +kernel
theorem dX5_from_57 : decode cX5_from 57 = .ok (.iastore, 1) := by decide +kernel
theorem dX5_from_58 : decode cX5_from 58 = .ok (.iinc 2 1, 3) := by decide +kernel
theorem dX5_from_61 : decode cX5_from 61 = .ok (.goto (-28), 3) := by decide +kernel
theorem dX5_from_64 : decode cX5_from 64 = .ok (.iconst 1, 1) := by decide +kernel
theorem dX5_from_65 : decode cX5_from 65 = .ok (.ireturn, 1) := by decide +kernel
theorem dX5_status_0 : decode cX5_status 0 = .ok (.iload_n 1, 1) := by decide +kernel
theorem dX5_status_1 : decode cX5_status 1 = .ok (.i2l, 1) := by decide +kernel
theorem dX5_status_2 : decode cX5_status 2 = .ok (.lconst 0, 1) := by decide +kernel
theorem dX5_status_3 : decode cX5_status 3 = .ok (.ldc2_w 159, 3) := by decide +kernel
theorem dX5_status_6 : decode cX5_status 6 = .ok (.invokestatic 80, 3) := by decide +kernel
theorem dX5_status_9 : decode cX5_status 9 = .ok (.ifCond .eq 12, 3) := by decide +kernel
theorem dX5_status_12 : decode cX5_status 12 = .ok (.aload_n 0, 1) := by decide +kernel
theorem dX5_status_13 : decode cX5_status 13 = .ok (.getfield 20, 3) := by decide +kernel
theorem dX5_status_16 : decode cX5_status 16 = .ok (.iload_n 1, 1) := by decide +kernel
theorem dX5_status_17 : decode cX5_status 17 = .ok (.iaload, 1) := by decide +kernel
theorem dX5_status_18 : decode cX5_status 18 = .ok (.goto 8, 3) := by decide +kernel
theorem dX5_status_21 : decode cX5_status 21 = .ok (.aload_n 0, 1) := by decide +kernel
theorem dX5_status_22 : decode cX5_status 22 = .ok (.iconst (-1), 1) := by decide +kernel
theorem dX5_status_23 : decode cX5_status 23 = .ok (.invokevirtual 94, 3) := by decide +kernel
theorem dX5_status_26 : decode cX5_status 26 = .ok (.ireturn, 1) := by decide +kernel
theorem dX5_allOf_0 : decode cX5_allOf 0 = .ok (.iconst 0, 1) := by decide +kernel
theorem dX5_allOf_1 : decode cX5_allOf 1 = .ok (.istore_n 2, 1) := by decide +kernel
theorem dX5_allOf_2 : decode cX5_allOf 2 = .ok (.iconst 0, 1) := by decide +kernel
theorem dX5_allOf_3 : decode cX5_allOf 3 = .ok (.istore_n 3, 1) := by decide +kernel
theorem dX5_allOf_4 : decode cX5_allOf 4 = .ok (.iload_n 3, 1) := by decide +kernel
theorem dX5_allOf_5 : decode cX5_allOf 5 = .ok (.aload_n 0, 1) := by decide +kernel
theorem dX5_allOf_6 : decode cX5_allOf 6 = .ok (.invokevirtual 76, 3) := by decide +kernel
theorem dX5_allOf_9 : decode cX5_allOf 9 = .ok (.if_icmp .ge 20, 3) := by decide +kernel
theorem dX5_allOf_12 : decode cX5_allOf 12 = .ok (.iload_n 2, 1) := by decide +kernel
theorem dX5_allOf_13 : decode cX5_allOf 13 = .ok (.aload_n 0, 1) := by decide +kernel
theorem dX5_allOf_14 : decode cX5_allOf 14 = .ok (.getfield 7, 3) := by decide +kernel
theorem dX5_allOf_17 : decode cX5_allOf 17 = .ok (.iload_n 1, 1) := by decide +kernel
theorem dX5_allOf_18 : decode cX5_allOf 18 = .ok (.iload_n 3, 1) := by decide +kernel
theorem dX5_allOf_19 : decode cX5_allOf 19 = .ok (.iadd, 1) := by decide +kernel
theorem dX5_allOf_20 : decode cX5_allOf 20 = .ok (.iaload, 1) := by decide +kernel
theorem dX5_allOf_21 : decode cX5_allOf 21 = .ok (.iadd, 1) := by decide +kernel
theorem dX5_allOf_22 : decode cX5_allOf 22 = .ok (.istore_n 2, 1) := by decide +kernel
theorem dX5_allOf_23 : decode cX5_allOf 23 = .ok (.iinc 3 1, 3) := by decide +kernel
theorem dX5_allOf_26 : decode cX5_allOf 26 = .ok (.goto (-22), 3) := by decide +kernel
theorem dX5_allOf_29 : decode cX5_allOf 29 = .ok (.iload_n 2, 1) := by decide +kernel
theorem dX5_allOf_30 : decode cX5_allOf 30 = .ok (.ireturn, 1) := by decide +kernel
theorem dX5_counted_0 : decode cX5_counted 0 = .ok (.iload_n 1, 1) := by decide +kernel
theorem dX5_counted_1 : decode cX5_counted 1 = .ok (.tableswitch 102 0 7 #[47, 52, 60, 68, 74, 81, 88, 95], 47) := by decide +kernel
theorem dX5_counted_48 : decode cX5_counted 48 = .ok (.aload_n 0, 1) := by decide +kernel
theorem dX5_counted_49 : decode cX5_counted 49 = .ok (.invokevirtual 76, 3) := by decide +kernel
theorem dX5_counted_52 : decode cX5_counted 52 = .ok (.ireturn, 1) := by decide +kernel
theorem dX5_counted_53 : decode cX5_counted 53 = .ok (.aload_n 0, 1) := by decide +kernel
theorem dX5_counted_54 : decode cX5_counted 54 = .ok (.getfield 7, 3) := by decide +kernel
theorem dX5_counted_57 : decode cX5_counted 57 = .ok (.bipush 24, 2) := by decide +kernel
theorem dX5_counted_59 : decode cX5_counted 59 = .ok (.iaload, 1) := by decide +kernel
theorem dX5_counted_60 : decode cX5_counted 60 = .ok (.ireturn, 1) := by decide +kernel
theorem dX5_counted_61 : decode cX5_counted 61 = .ok (.aload_n 0, 1) := by decide +kernel
theorem dX5_counted_62 : decode cX5_counted 62 = .ok (.getfield 7, 3) := by decide +kernel
theorem dX5_counted_65 : decode cX5_counted 65 = .ok (.bipush 25, 2) := by decide +kernel
theorem dX5_counted_67 : decode cX5_counted 67 = .ok (.iaload, 1) := by decide +kernel
theorem dX5_counted_68 : decode cX5_counted 68 = .ok (.ireturn, 1) := by decide +kernel
theorem dX5_counted_69 : decode cX5_counted 69 = .ok (.aload_n 0, 1) := by decide +kernel
theorem dX5_counted_70 : decode cX5_counted 70 = .ok (.iconst 4, 1) := by decide +kernel
theorem dX5_counted_71 : decode cX5_counted 71 = .ok (.invokevirtual 282, 3) := by decide +kernel
theorem dX5_counted_74 : decode cX5_counted 74 = .ok (.ireturn, 1) := by decide +kernel
theorem dX5_counted_75 : decode cX5_counted 75 = .ok (.aload_n 0, 1) := by decide +kernel
theorem dX5_counted_76 : decode cX5_counted 76 = .ok (.bipush 9, 2) := by decide +kernel
theorem dX5_counted_78 : decode cX5_counted 78 = .ok (.invokevirtual 282, 3) := by decide +kernel
theorem dX5_counted_81 : decode cX5_counted 81 = .ok (.ireturn, 1) := by decide +kernel
theorem dX5_counted_82 : decode cX5_counted 82 = .ok (.aload_n 0, 1) := by decide +kernel
theorem dX5_counted_83 : decode cX5_counted 83 = .ok (.getfield 7, 3) := by decide +kernel
theorem dX5_counted_86 : decode cX5_counted 86 = .ok (.iconst 1, 1) := by decide +kernel
theorem dX5_counted_87 : decode cX5_counted 87 = .ok (.iaload, 1) := by decide +kernel
theorem dX5_counted_88 : decode cX5_counted 88 = .ok (.ireturn, 1) := by decide +kernel
theorem dX5_counted_89 : decode cX5_counted 89 = .ok (.aload_n 0, 1) := by decide +kernel
theorem dX5_counted_90 : decode cX5_counted 90 = .ok (.getfield 7, 3) := by decide +kernel
theorem dX5_counted_93 : decode cX5_counted 93 = .ok (.iconst 2, 1) := by decide +kernel
theorem dX5_counted_94 : decode cX5_counted 94 = .ok (.iaload, 1) := by decide +kernel
theorem dX5_counted_95 : decode cX5_counted 95 = .ok (.ireturn, 1) := by decide +kernel
theorem dX5_counted_96 : decode cX5_counted 96 = .ok (.aload_n 0, 1) := by decide +kernel
theorem dX5_counted_97 : decode cX5_counted 97 = .ok (.getfield 7, 3) := by decide +kernel
theorem dX5_counted_100 : decode cX5_counted 100 = .ok (.iconst 3, 1) := by decide +kernel
theorem dX5_counted_101 : decode cX5_counted 101 = .ok (.iaload, 1) := by decide +kernel
theorem dX5_counted_102 : decode cX5_counted 102 = .ok (.ireturn, 1) := by decide +kernel
theorem dX5_counted_103 : decode cX5_counted 103 = .ok (.aload_n 0, 1) := by decide +kernel
theorem dX5_counted_104 : decode cX5_counted 104 = .ok (.getfield 217, 3) := by decide +kernel
theorem dX5_counted_107 : decode cX5_counted 107 = .ok (.ireturn, 1) := by decide +kernel
theorem dX5_count_0 : decode cX5_count 0 = .ok (.iload_n 1, 1) := by decide +kernel
theorem dX5_count_1 : decode cX5_count 1 = .ok (.i2l, 1) := by decide +kernel
theorem dX5_count_2 : decode cX5_count 2 = .ok (.lconst 0, 1) := by decide +kernel
theorem dX5_count_3 : decode cX5_count 3 = .ok (.ldc2_w 285, 3) := by decide +kernel
theorem dX5_count_6 : decode cX5_count 6 = .ok (.invokestatic 80, 3) := by decide +kernel
theorem dX5_count_9 : decode cX5_count 9 = .ok (.ifCond .eq 11, 3) := by decide +kernel
theorem dX5_count_12 : decode cX5_count 12 = .ok (.aload_n 0, 1) := by decide +kernel
theorem dX5_count_13 : decode cX5_count 13 = .ok (.iload_n 1, 1) := by decide +kernel
theorem dX5_count_14 : decode cX5_count 14 = .ok (.invokevirtual 287, 3) := by decide +kernel
theorem dX5_count_17 : decode cX5_count 17 = .ok (.goto 9, 3) := by decide +kernel
theorem dX5_count_20 : decode cX5_count 20 = .ok (.aload_n 0, 1) := by decide +kernel
theorem dX5_count_21 : decode cX5_count 21 = .ok (.bipush (-2), 2) := by decide +kernel
theorem dX5_count_23 : decode cX5_count 23 = .ok (.invokevirtual 94, 3) := by decide +kernel
theorem dX5_count_26 : decode cX5_count 26 = .ok (.ireturn, 1) := by decide +kernel
theorem dX5_sums_0 : decode cX5_sums 0 = .ok (.lload_n 1, 1) := by decide +kernel
theorem dX5_sums_1 : decode cX5_sums 1 = .ok (.lstore 5, 2) := by decide +kernel
theorem dX5_sums_3 : decode cX5_sums 3 = .ok (.iconst 0, 1) := by decide +kernel
theorem dX5_sums_4 : decode cX5_sums 4 = .ok (.istore 7, 2) := by decide +kernel
theorem dX5_sums_6 : decode cX5_sums 6 = .ok (.iload 7, 2) := by decide +kernel
theorem dX5_sums_8 : decode cX5_sums 8 = .ok (.iload 4, 2) := by decide +kernel
theorem dX5_sums_10 : decode cX5_sums 10 = .ok (.if_icmp .ge 28, 3) := by decide +kernel
theorem dX5_sums_13 : decode cX5_sums 13 = .ok (.ldc2_w 290, 3) := by decide +kernel
theorem dX5_sums_16 : decode cX5_sums 16 = .ok (.lload 5, 2) := by decide +kernel
theorem dX5_sums_18 : decode cX5_sums 18 = .ok (.lmul, 1) := by decide +kernel
theorem dX5_sums_19 : decode cX5_sums 19 = .ok (.aload_n 0, 1) := by decide +kernel
theorem dX5_sums_20 : decode cX5_sums 20 = .ok (.getfield 7, 3) := by decide +kernel
theorem dX5_sums_23 : decode cX5_sums 23 = .ok (.iload_n 3, 1) := by decide +kernel
theorem dX5_sums_24 : decode cX5_sums 24 = .ok (.iload 7, 2) := by decide +kernel
theorem dX5_sums_26 : decode cX5_sums 26 = .ok (.iadd, 1) := by decide +kernel
theorem dX5_sums_27 : decode cX5_sums 27 = .ok (.iaload, 1) := by decide +kernel
theorem dX5_sums_28 : decode cX5_sums 28 = .ok (.i2l, 1) := by decide +kernel
theorem dX5_sums_29 : decode cX5_sums 29 = .ok (.ladd, 1) := by decide +kernel
theorem dX5_sums_30 : decode cX5_sums 30 = .ok (.lstore 5, 2) := by decide +kernel
theorem dX5_sums_32 : decode cX5_sums 32 = .ok (.iinc 7 1, 3) := by decide +kernel
theorem dX5_sums_35 : decode cX5_sums 35 = .ok (.goto (-29), 3) := by decide +kernel
theorem dX5_sums_38 : decode cX5_sums 38 = .ok (.lload 5, 2) := by decide +kernel
theorem dX5_sums_40 : decode cX5_sums 40 = .ok (.lreturn, 1) := by decide +kernel
theorem dX5_digest_0 : decode cX5_digest 0 = .ok (.ldc2_w 292, 3) := by decide +kernel
theorem dX5_digest_3 : decode cX5_digest 3 = .ok (.lstore_n 1, 1) := by decide +kernel
theorem dX5_digest_4 : decode cX5_digest 4 = .ok (.iconst 0, 1) := by decide +kernel
theorem dX5_digest_5 : decode cX5_digest 5 = .ok (.istore_n 3, 1) := by decide +kernel
theorem dX5_digest_6 : decode cX5_digest 6 = .ok (.iload_n 3, 1) := by decide +kernel
theorem dX5_digest_7 : decode cX5_digest 7 = .ok (.bipush 9, 2) := by decide +kernel
theorem dX5_digest_9 : decode cX5_digest 9 = .ok (.if_icmp .ge 22, 3) := by decide +kernel
theorem dX5_digest_12 : decode cX5_digest 12 = .ok (.ldc2_w 290, 3) := by decide +kernel
theorem dX5_digest_15 : decode cX5_digest 15 = .ok (.lload_n 1, 1) := by decide +kernel
theorem dX5_digest_16 : decode cX5_digest 16 = .ok (.lmul, 1) := by decide +kernel
theorem dX5_digest_17 : decode cX5_digest 17 = .ok (.aload_n 0, 1) := by decide +kernel
theorem dX5_digest_18 : decode cX5_digest 18 = .ok (.iload_n 3, 1) := by decide +kernel
theorem dX5_digest_19 : decode cX5_digest 19 = .ok (.invokevirtual 287, 3) := by decide +kernel
theorem dX5_digest_22 : decode cX5_digest 22 = .ok (.i2l, 1) := by decide +kernel
theorem dX5_digest_23 : decode cX5_digest 23 = .ok (.ladd, 1) := by decide +kernel
theorem dX5_digest_24 : decode cX5_digest 24 = .ok (.lstore_n 1, 1) := by decide +kernel
theorem dX5_digest_25 : decode cX5_digest 25 = .ok (.iinc 3 1, 3) := by decide +kernel
theorem dX5_digest_28 : decode cX5_digest 28 = .ok (.goto (-22), 3) := by decide +kernel
theorem dX5_digest_31 : decode cX5_digest 31 = .ok (.iconst 0, 1) := by decide +kernel
theorem dX5_digest_32 : decode cX5_digest 32 = .ok (.istore_n 3, 1) := by decide +kernel
theorem dX5_digest_33 : decode cX5_digest 33 = .ok (.iload_n 3, 1) := by decide +kernel
theorem dX5_digest_34 : decode cX5_digest 34 = .ok (.aload_n 0, 1) := by decide +kernel
theorem dX5_digest_35 : decode cX5_digest 35 = .ok (.invokevirtual 76, 3) := by decide +kernel
theorem dX5_digest_38 : decode cX5_digest 38 = .ok (.if_icmp .ge 87, 3) := by decide +kernel
theorem dX5_digest_41 : decode cX5_digest 41 = .ok (.ldc2_w 290, 3) := by decide +kernel
theorem dX5_digest_44 : decode cX5_digest 44 = .ok (.ldc2_w 290, 3) := by decide +kernel
theorem dX5_digest_47 : decode cX5_digest 47 = .ok (.ldc2_w 290, 3) := by decide +kernel
theorem dX5_digest_50 : decode cX5_digest 50 = .ok (.lload_n 1, 1) := by decide +kernel
theorem dX5_digest_51 : decode cX5_digest 51 = .ok (.lmul, 1) := by decide +kernel
theorem dX5_digest_52 : decode cX5_digest 52 = .ok (.aload_n 0, 1) := by decide +kernel
theorem dX5_digest_53 : decode cX5_digest 53 = .ok (.getfield 7, 3) := by decide +kernel
theorem dX5_digest_56 : decode cX5_digest 56 = .ok (.bipush 26, 2) := by decide +kernel
theorem dX5_digest_58 : decode cX5_digest 58 = .ok (.iload_n 3, 1) := by decide +kernel
theorem dX5_digest_59 : decode cX5_digest 59 = .ok (.iadd, 1) := by decide +kernel
theorem dX5_digest_60 : decode cX5_digest 60 = .ok (.iaload, 1) := by decide +kernel
theorem dX5_digest_61 : decode cX5_digest 61 = .ok (.i2l, 1) := by decide +kernel
theorem dX5_digest_62 : decode cX5_digest 62 = .ok (.ladd, 1) := by decide +kernel
theorem dX5_digest_63 : decode cX5_digest 63 = .ok (.lmul, 1) := by decide +kernel
theorem dX5_digest_64 : decode cX5_digest 64 = .ok (.aload_n 0, 1) := by decide +kernel
theorem dX5_digest_65 : decode cX5_digest 65 = .ok (.getfield 7, 3) := by decide +kernel
theorem dX5_digest_68 : decode cX5_digest 68 = .ok (.bipush 19, 2) := by decide +kernel
theorem dX5_digest_70 : decode cX5_digest 70 = .ok (.iload_n 3, 1) := by decide +kernel
theorem dX5_digest_71 : decode cX5_digest 71 = .ok (.iadd, 1) := by decide +kernel
theorem dX5_digest_72 : decode cX5_digest 72 = .ok (.iaload, 1) := by decide +kernel
theorem dX5_digest_73 : decode cX5_digest 73 = .ok (.i2l, 1) := by decide +kernel
theorem dX5_digest_74 : decode cX5_digest 74 = .ok (.ladd, 1) := by decide +kernel
theorem dX5_digest_75 : decode cX5_digest 75 = .ok (.lmul, 1) := by decide +kernel
theorem dX5_digest_76 : decode cX5_digest 76 = .ok (.aload_n 0, 1) := by decide +kernel
theorem dX5_digest_77 : decode cX5_digest 77 = .ok (.getfield 7, 3) := by decide +kernel
theorem dX5_digest_80 : decode cX5_digest 80 = .ok (.bipush 14, 2) := by decide +kernel
theorem dX5_digest_82 : decode cX5_digest 82 = .ok (.iload_n 3, 1) := by decide +kernel
theorem dX5_digest_83 : decode cX5_digest 83 = .ok (.iadd, 1) := by decide +kernel
theorem dX5_digest_84 : decode cX5_digest 84 = .ok (.iaload, 1) := by decide +kernel
theorem dX5_digest_85 : decode cX5_digest 85 = .ok (.i2l, 1) := by decide +kernel
theorem dX5_digest_86 : decode cX5_digest 86 = .ok (.ladd, 1) := by decide +kernel
theorem dX5_digest_87 : decode cX5_digest 87 = .ok (.lstore_n 1, 1) := by decide +kernel
theorem dX5_digest_88 : decode cX5_digest 88 = .ok (.ldc2_w 290, 3) := by decide +kernel
theorem dX5_digest_91 : decode cX5_digest 91 = .ok (.ldc2_w 290, 3) := by decide +kernel
theorem dX5_digest_94 : decode cX5_digest 94 = .ok (.lload_n 1, 1) := by decide +kernel
theorem dX5_digest_95 : decode cX5_digest 95 = .ok (.lmul, 1) := by decide +kernel
theorem dX5_digest_96 : decode cX5_digest 96 = .ok (.aload_n 0, 1) := by decide +kernel
theorem dX5_digest_97 : decode cX5_digest 97 = .ok (.getfield 7, 3) := by decide +kernel
theorem dX5_digest_100 : decode cX5_digest 100 = .ok (.iconst 4, 1) := by decide +kernel
theorem dX5_digest_101 : decode cX5_digest 101 = .ok (.iload_n 3, 1) := by decide +kernel
theorem dX5_digest_102 : decode cX5_digest 102 = .ok (.iadd, 1) := by decide +kernel
theorem dX5_digest_103 : decode cX5_digest 103 = .ok (.iaload, 1) := by decide +kernel
theorem dX5_digest_104 : decode cX5_digest 104 = .ok (.i2l, 1) := by decide +kernel
theorem dX5_digest_105 : decode cX5_digest 105 = .ok (.ladd, 1) := by decide +kernel
theorem dX5_digest_106 : decode cX5_digest 106 = .ok (.lmul, 1) := by decide +kernel
theorem dX5_digest_107 : decode cX5_digest 107 = .ok (.aload_n 0, 1) := by decide +kernel
theorem dX5_digest_108 : decode cX5_digest 108 = .ok (.getfield 7, 3) := by decide +kernel
theorem dX5_digest_111 : decode cX5_digest 111 = .ok (.bipush 9, 2) := by decide +kernel
theorem dX5_digest_113 : decode cX5_digest 113 = .ok (.iload_n 3, 1) := by decide +kernel
theorem dX5_digest_114 : decode cX5_digest 114 = .ok (.iadd, 1) := by decide +kernel
theorem dX5_digest_115 : decode cX5_digest 115 = .ok (.iaload, 1) := by decide +kernel
theorem dX5_digest_116 : decode cX5_digest 116 = .ok (.i2l, 1) := by decide +kernel
theorem dX5_digest_117 : decode cX5_digest 117 = .ok (.ladd, 1) := by decide +kernel
theorem dX5_digest_118 : decode cX5_digest 118 = .ok (.lstore_n 1, 1) := by decide +kernel
theorem dX5_digest_119 : decode cX5_digest 119 = .ok (.iinc 3 1, 3) := by decide +kernel
theorem dX5_digest_122 : decode cX5_digest 122 = .ok (.goto (-89), 3) := by decide +kernel
theorem dX5_digest_125 : decode cX5_digest 125 = .ok (.aload_n 0, 1) := by decide +kernel
theorem dX5_digest_126 : decode cX5_digest 126 = .ok (.lload_n 1, 1) := by decide +kernel
theorem dX5_digest_127 : decode cX5_digest 127 = .ok (.bipush 31, 2) := by decide +kernel
theorem dX5_digest_129 : decode cX5_digest 129 = .ok (.iconst 2, 1) := by decide +kernel
theorem dX5_digest_130 : decode cX5_digest 130 = .ok (.aload_n 0, 1) := by decide +kernel
theorem dX5_digest_131 : decode cX5_digest 131 = .ok (.getfield 7, 3) := by decide +kernel
theorem dX5_digest_134 : decode cX5_digest 134 = .ok (.iconst 1, 1) := by decide +kernel
theorem dX5_digest_135 : decode cX5_digest 135 = .ok (.iaload, 1) := by decide +kernel
theorem dX5_digest_136 : decode cX5_digest 136 = .ok (.imul, 1) := by decide +kernel
theorem dX5_digest_137 : decode cX5_digest 137 = .ok (.invokevirtual 294, 3) := by decide +kernel
theorem dX5_digest_140 : decode cX5_digest 140 = .ok (.lstore_n 1, 1) := by decide +kernel
theorem dX5_digest_141 : decode cX5_digest 141 = .ok (.aload_n 0, 1) := by decide +kernel
theorem dX5_digest_142 : decode cX5_digest 142 = .ok (.lload_n 1, 1) := by decide +kernel
theorem dX5_digest_143 : decode cX5_digest 143 = .ok (.bipush 39, 2) := by decide +kernel
theorem dX5_digest_145 : decode cX5_digest 145 = .ok (.bipush 6, 2) := by decide +kernel
theorem dX5_digest_147 : decode cX5_digest 147 = .ok (.aload_n 0, 1) := by decide +kernel
theorem dX5_digest_148 : decode cX5_digest 148 = .ok (.getfield 7, 3) := by decide +kernel
theorem dX5_digest_151 : decode cX5_digest 151 = .ok (.iconst 2, 1) := by decide +kernel
theorem dX5_digest_152 : decode cX5_digest 152 = .ok (.iaload, 1) := by decide +kernel
theorem dX5_digest_153 : decode cX5_digest 153 = .ok (.imul, 1) := by decide +kernel
theorem dX5_digest_154 : decode cX5_digest 154 = .ok (.invokevirtual 294, 3) := by decide +kernel
theorem dX5_digest_157 : decode cX5_digest 157 = .ok (.lstore_n 1, 1) := by decide +kernel
theorem dX5_digest_158 : decode cX5_digest 158 = .ok (.ldc2_w 290, 3) := by decide +kernel
theorem dX5_digest_161 : decode cX5_digest 161 = .ok (.ldc2_w 290, 3) := by decide +kernel
theorem dX5_digest_164 : decode cX5_digest 164 = .ok (.lload_n 1, 1) := by decide +kernel
theorem dX5_digest_165 : decode cX5_digest 165 = .ok (.lmul, 1) := by decide +kernel
theorem dX5_digest_166 : decode cX5_digest 166 = .ok (.aload_n 0, 1) := by decide +kernel
theorem dX5_digest_167 : decode cX5_digest 167 = .ok (.getfield 194, 3) := by decide +kernel
theorem dX5_digest_170 : decode cX5_digest 170 = .ok (.ladd, 1) := by decide +kernel
theorem dX5_digest_171 : decode cX5_digest 171 = .ok (.lmul, 1) := by decide +kernel
theorem dX5_digest_172 : decode cX5_digest 172 = .ok (.aload_n 0, 1) := by decide +kernel
theorem dX5_digest_173 : decode cX5_digest 173 = .ok (.getfield 23, 3) := by decide +kernel
theorem dX5_digest_176 : decode cX5_digest 176 = .ok (.ladd, 1) := by decide +kernel
theorem dX5_digest_177 : decode cX5_digest 177 = .ok (.lreturn, 1) := by decide +kernel
