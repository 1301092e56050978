theorem dX0_gets_0 : decode cX0_gets 0 = .ok (.iload_n 1, 1) := by decide +kernel
theorem dX0_gets_1 : decode cX0_gets 1 = .ok (.iload_n 3, 1) := by decide +kernel
theorem dX0_gets_2 : decode cX0_gets 2 = .ok (.invokestatic 9, 3) := by decide +kernel
theorem dX0_gets_5 : decode cX0_gets 5 = .ok (.istore 4, 2) := by decide +kernel
theorem dX0_gets_7 : decode cX0_gets 7 = .ok (.iload_n 3, 1) := by decide +kernel
theorem dX0_gets_8 : decode cX0_gets 8 = .ok (.bipush 10, 2) := by decide +kernel
theorem dX0_gets_10 : decode cX0_gets 10 = .ok (.if_icmp .ge 10, 3) := by decide +kernel
theorem dX0_gets_13 : decode cX0_gets 13 = .ok (.iload 4, 2) := by decide +kernel
theorem dX0_gets_15 : decode cX0_gets 15 = .ok (.iconst 2, 1) := by decide +kernel
theorem dX0_gets_16 : decode cX0_gets 16 = .ok (.idiv, 1) := by decide +kernel
theorem dX0_gets_17 : decode cX0_gets 17 = .ok (.goto 5, 3) := by decide +kernel
theorem dX0_gets_20 : decode cX0_gets 20 = .ok (.iload 4, 2) := by decide +kernel
theorem dX0_gets_22 : decode cX0_gets 22 = .ok (.istore 5, 2) := by decide +kernel
theorem dX0_gets_24 : decode cX0_gets 24 = .ok (.iload_n 0, 1) := by decide +kernel
theorem dX0_gets_25 : decode cX0_gets 25 = .ok (.tableswitch 57 2 5 #[31, 57, 34, 48], 31) := by decide +kernel
theorem dX0_gets_56 : decode cX0_gets 56 = .ok (.iload 5, 2) := by decide +kernel
theorem dX0_gets_58 : decode cX0_gets 58 = .ok (.ireturn, 1) := by decide +kernel
theorem dX0_gets_59 : decode cX0_gets 59 = .ok (.iload_n 2, 1) := by decide +kernel
theorem dX0_gets_60 : decode cX0_gets 60 = .ok (.iconst 1, 1) := by decide +kernel
theorem dX0_gets_61 : decode cX0_gets 61 = .ok (.iand, 1) := by decide +kernel
theorem dX0_gets_62 : decode cX0_gets 62 = .ok (.iconst 1, 1) := by decide +kernel
theorem dX0_gets_63 : decode cX0_gets 63 = .ok (.if_icmp .ne 8, 3) := by decide +kernel
theorem dX0_gets_66 : decode cX0_gets 66 = .ok (.iload 4, 2) := by decide +kernel
theorem dX0_gets_68 : decode cX0_gets 68 = .ok (.goto 4, 3) := by decide +kernel
theorem dX0_gets_71 : decode cX0_gets 71 = .ok (.iconst 0, 1) := by decide +kernel
theorem dX0_gets_72 : decode cX0_gets 72 = .ok (.ireturn, 1) := by decide +kernel
theorem dX0_gets_73 : decode cX0_gets 73 = .ok (.iconst 2, 1) := by decide +kernel
theorem dX0_gets_74 : decode cX0_gets 74 = .ok (.iload 5, 2) := by decide +kernel
theorem dX0_gets_76 : decode cX0_gets 76 = .ok (.imul, 1) := by decide +kernel
theorem dX0_gets_77 : decode cX0_gets 77 = .ok (.iload_n 3, 1) := by decide +kernel
theorem dX0_gets_78 : decode cX0_gets 78 = .ok (.invokestatic 9, 3) := by decide +kernel
theorem dX0_gets_81 : decode cX0_gets 81 = .ok (.ireturn, 1) := by decide +kernel
theorem dX0_gets_82 : decode cX0_gets 82 = .ok (.iload 4, 2) := by decide +kernel
theorem dX0_gets_84 : decode cX0_gets 84 = .ok (.ireturn, 1) := by decide +kernel
theorem dX0_due_0 : decode cX0_due 0 = .ok (.iload_n 0, 1) := by decide +kernel
theorem dX0_due_1 : decode cX0_due 1 = .ok (.tableswitch 54 1 5 #[35, 54, 39, 35, 41], 35) := by decide +kernel
theorem dX0_due_36 : decode cX0_due 36 = .ok (.iconst 2, 1) := by decide +kernel
theorem dX0_due_37 : decode cX0_due 37 = .ok (.iload_n 1, 1) := by decide +kernel
theorem dX0_due_38 : decode cX0_due 38 = .ok (.imul, 1) := by decide +kernel
theorem dX0_due_39 : decode cX0_due 39 = .ok (.ireturn, 1) := by decide +kernel
theorem dX0_due_40 : decode cX0_due 40 = .ok (.iconst 0, 1) := by decide +kernel
theorem dX0_due_41 : decode cX0_due 41 = .ok (.ireturn, 1) := by decide +kernel
theorem dX0_due_42 : decode cX0_due 42 = .ok (.iload_n 1, 1) := by decide +kernel
theorem dX0_due_43 : decode cX0_due 43 = .ok (.iconst 1, 1) := by decide +kernel
theorem dX0_due_44 : decode cX0_due 44 = .ok (.if_icmp .lt 9, 3) := by decide +kernel
theorem dX0_due_47 : decode cX0_due 47 = .ok (.iload_n 1, 1) := by decide +kernel
theorem dX0_due_48 : decode cX0_due 48 = .ok (.iconst 1, 1) := by decide +kernel
theorem dX0_due_49 : decode cX0_due 49 = .ok (.iadd, 1) := by decide +kernel
theorem dX0_due_50 : decode cX0_due 50 = .ok (.goto 4, 3) := by decide +kernel
theorem dX0_due_53 : decode cX0_due 53 = .ok (.iload_n 1, 1) := by decide +kernel
theorem dX0_due_54 : decode cX0_due 54 = .ok (.ireturn, 1) := by decide +kernel
theorem dX0_due_55 : decode cX0_due 55 = .ok (.iload_n 1, 1) := by decide +kernel
theorem dX0_due_56 : decode cX0_due 56 = .ok (.ireturn, 1) := by decide +kernel
theorem dX1_init_0 : decode cX1_init 0 = .ok (.aload_n 0, 1) := by decide +kernel
theorem dX1_init_1 : decode cX1_init 1 = .ok (.invokespecial 3, 3) := by decide +kernel
theorem dX1_init_4 : decode cX1_init 4 = .ok (.aload_n 0, 1) := by decide +kernel
theorem dX1_init_5 : decode cX1_init 5 = .ok (.bipush 30, 2) := by decide +kernel
theorem dX1_init_7 : decode cX1_init 7 = .ok (.putfield 9, 3) := by decide +kernel
theorem dX1_init_10 : decode cX1_init 10 = .ok (.aload_n 0, 1) := by decide +kernel
theorem dX1_init_11 : decode cX1_init 11 = .ok (.iconst 0, 1) := by decide +kernel
theorem dX1_init_12 : decode cX1_init 12 = .ok (.putfield 15, 3) := by decide +kernel
theorem dX1_init_15 : decode cX1_init 15 = .ok (.aload_n 0, 1) := by decide +kernel
theorem dX1_init_16 : decode cX1_init 16 = .ok (.iconst 0, 1) := by decide +kernel
theorem dX1_init_17 : decode cX1_init 17 = .ok (.putfield 18, 3) := by decide +kernel
theorem dX1_init_20 : decode cX1_init 20 = .ok (.aload_n 0, 1) := by decide +kernel
theorem dX1_init_21 : decode cX1_init 21 = .ok (.iconst 0, 1) := by decide +kernel
theorem dX1_init_22 : decode cX1_init 22 = .ok (.putfield 21, 3) := by decide +kernel
theorem dX1_init_25 : decode cX1_init 25 = .ok (.aload_n 0, 1) := by decide +kernel
theorem dX1_init_26 : decode cX1_init 26 = .ok (.iconst 0, 1) := by decide +kernel
theorem dX1_init_27 : decode cX1_init 27 = .ok (.putfield 24, 3) := by decide +kernel
theorem dX1_init_30 : decode cX1_init 30 = .ok (.aload_n 0, 1) := by decide +kernel
theorem dX1_init_31 : decode cX1_init 31 = .ok (.iconst 0, 1) := by decide +kernel
theorem dX1_init_32 : decode cX1_init 32 = .ok (.putfield 27, 3) := by decide +kernel
theorem dX1_init_35 : decode cX1_init 35 = .ok (.aload_n 0, 1) := by decide +kernel
theorem dX1_init_36 : decode cX1_init 36 = .ok (.iconst 5, 1) := by decide +kernel
theorem dX1_init_37 : decode cX1_init 37 = .ok (.newarray .int, 2) := by decide +kernel
theorem dX1_init_39 : decode cX1_init 39 = .ok (.putfield 30, 3) := by decide +kernel
theorem dX1_init_42 : decode cX1_init 42 = .ok (.aload_n 0, 1) := by decide +kernel
theorem dX1_init_43 : decode cX1_init 43 = .ok (.iconst 5, 1) := by decide +kernel
theorem dX1_init_44 : decode cX1_init 44 = .ok (.newarray .int, 2) := by decide +kernel
theorem dX1_init_46 : decode cX1_init 46 = .ok (.putfield 34, 3) := by decide +kernel
theorem dX1_init_49 : decode cX1_init 49 = .ok (.aload_n 0, 1) := by decide +kernel
theorem dX1_init_50 : decode cX1_init 50 = .ok (.iconst 5, 1) := by decide +kernel
theorem dX1_init_51 : decode cX1_init 51 = .ok (.newarray .int, 2) := by decide +kernel
theorem dX1_init_53 : decode cX1_init 53 = .ok (.putfield 37, 3) := by decide +kernel
theorem dX1_init_56 : decode cX1_init 56 = .ok (.aload_n 0, 1) := by decide +kernel
theorem dX1_init_57 : decode cX1_init 57 = .ok (.iconst 5, 1) := by decide +kernel
theorem dX1_init_58 : decode cX1_init 58 = .ok (.newarray .int, 2) := by decide +kernel
theorem dX1_init_60 : decode cX1_init 60 = .ok (.putfield 40, 3) := by decide +kernel
theorem dX1_init_63 : decode cX1_init 63 = .ok (.aload_n 0, 1) := by decide +kernel
theorem dX1_init_64 : decode cX1_init 64 = .ok (.iconst 5, 1) := by decide +kernel
theorem dX1_init_65 : decode cX1_init 65 = .ok (.newarray .int, 2) := by decide +kernel
theorem dX1_init_67 : decode cX1_init 67 = .ok (.putfield 43, 3) := by decide +kernel
theorem dX1_init_70 : decode cX1_init 70 = .ok (.aload_n 0, 1) := by decide +kernel
theorem dX1_init_71 : decode cX1_init 71 = .ok (.iconst 4, 1) := by decide +kernel
theorem dX1_init_72 : decode cX1_init 72 = .ok (.newarray .int, 2) := by decide +kernel
theorem dX1_init_74 : decode cX1_init 74 = .ok (.putfield 46, 3) := by decide +kernel
theorem dX1_init_77 : decode cX1_init 77 = .ok (.aload_n 0, 1) := by decide +kernel
theorem dX1_init_78 : decode cX1_init 78 = .ok (.iconst 4, 1) := by decide +kernel
theorem dX1_init_79 : decode cX1_init 79 = .ok (.newarray .int, 2) := by decide +kernel
theorem dX1_init_81 : decode cX1_init 81 = .ok (.putfield 49, 3) := by decide +kernel
theorem dX1_init_84 : decode cX1_init 84 = .ok (.aload_n 0, 1) := by decide +kernel
theorem dX1_init_85 : decode cX1_init 85 = .ok (.bipush 36, 2) := by decide +kernel
theorem dX1_init_87 : decode cX1_init 87 = .ok (.newarray .int, 2) := by decide +kernel
theorem dX1_init_89 : decode cX1_init 89 = .ok (.putfield 52, 3) := by decide +kernel
theorem dX1_init_92 : decode cX1_init 92 = .ok (.aload_n 0, 1) := by decide +kernel
theorem dX1_init_93 : decode cX1_init 93 = .ok (.sipush 176, 3) := by decide +kernel
theorem dX1_init_96 : decode cX1_init 96 = .ok (.newarray .int, 2) := by decide +kernel
theorem dX1_init_98 : decode cX1_init 98 = .ok (.putfield 55, 3) := by decide +kernel
theorem dX1_init_101 : decode cX1_init 101 = .ok (.aload_n 0, 1) := by decide +kernel
theorem dX1_init_102 : decode cX1_init 102 = .ok (.iconst 5, 1) := by decide +kernel
theorem dX1_init_103 : decode cX1_init 103 = .ok (.newarray .int, 2) := by decide +kernel
theorem dX1_init_105 : decode cX1_init 105 = .ok (.putfield 58, 3) := by decide +kernel
theorem dX1_init_108 : decode cX1_init 108 = .ok (.aload_n 0, 1) := by decide +kernel
theorem dX1_init_109 : decode cX1_init 109 = .ok (.iconst 5, 1) := by decide +kernel
theorem dX1_init_110 : decode cX1_init 110 = .ok (.newarray .int, 2) := by decide +kernel
theorem dX1_init_112 : decode cX1_init 112 = .ok (.putfield 61, 3) := by decide +kernel
theorem dX1_init_115 : decode cX1_init 115 = .ok (.aload_n 0, 1) := by decide +kernel
theorem dX1_init_116 : decode cX1_init 116 = .ok (.iconst 0, 1) := by decide +kernel
theorem dX1_init_117 : decode cX1_init 117 = .ok (.putfield 64, 3) := by decide +kernel
theorem dX1_init_120 : decode cX1_init 120 = .ok (.return_, 1) := by decide +kernel
theorem dX1_restart_0 : decode cX1_restart 0 = .ok (.aload_n 0, 1) := by decide +kernel
theorem dX1_restart_1 : decode cX1_restart 1 = .ok (.iload_n 1, 1) := by decide +kernel
theorem dX1_restart_2 : decode cX1_restart 2 = .ok (.putfield 9, 3) := by decide +kernel
theorem dX1_restart_5 : decode cX1_restart 5 = .ok (.aload_n 0, 1) := by decide +kernel
theorem dX1_restart_6 : decode cX1_restart 6 = .ok (.iconst 0, 1) := by decide +kernel
theorem dX1_restart_7 : decode cX1_restart 7 = .ok (.putfield 15, 3) := by decide +kernel
theorem dX1_restart_10 : decode cX1_restart 10 = .ok (.aload_n 0, 1) := by decide +kernel
theorem dX1_restart_11 : decode cX1_restart 11 = .ok (.iconst 0, 1) := by decide +kernel
theorem dX1_restart_12 : decode cX1_restart 12 = .ok (.putfield 18, 3) := by decide +kernel
theorem dX1_restart_15 : decode cX1_restart 15 = .ok (.aload_n 0, 1) := by decide +kernel
theorem dX1_restart_16 : decode cX1_restart 16 = .ok (.iconst 0, 1) := by decide +kernel
theorem dX1_restart_17 : decode cX1_restart 17 = .ok (.putfield 21, 3) := by decide +kernel
theorem dX1_restart_20 : decode cX1_restart 20 = .ok (.aload_n 0, 1) := by decide +kernel
theorem dX1_restart_21 : decode cX1_restart 21 = .ok (.iconst 0, 1) := by decide +kernel
theorem dX1_restart_22 : decode cX1_restart 22 = .ok (.putfield 24, 3) := by decide +kernel
theorem dX1_restart_25 : decode cX1_restart 25 = .ok (.aload_n 0, 1) := by decide +kernel
theorem dX1_restart_26 : decode cX1_restart 26 = .ok (.iconst 0, 1) := by decide +kernel
theorem dX1_restart_27 : decode cX1_restart 27 = .ok (.putfield 27, 3) := by decide +kernel
theorem dX1_restart_30 : decode cX1_restart 30 = .ok (.return_, 1) := by decide +kernel
theorem dX1_copyFrom_0 : decode cX1_copyFrom 0 = .ok (.aload_n 0, 1) := by decide +kernel
theorem dX1_copyFrom_1 : decode cX1_copyFrom 1 = .ok (.aload_n 1, 1) := by decide +kernel
theorem dX1_copyFrom_2 : decode cX1_copyFrom 2 = .ok (.getfield 9, 3) := by decide +kernel
theorem dX1_copyFrom_5 : decode cX1_copyFrom 5 = .ok (.putfield 9, 3) := by decide +kernel
theorem dX1_copyFrom_8 : decode cX1_copyFrom 8 = .ok (.aload_n 0, 1) := by decide +kernel
theorem dX1_copyFrom_9 : decode cX1_copyFrom 9 = .ok (.aload_n 1, 1) := by decide +kernel
theorem dX1_copyFrom_10 : decode cX1_copyFrom 10 = .ok (.getfield 15, 3) := by decide +kernel
theorem dX1_copyFrom_13 : decode cX1_copyFrom 13 = .ok (.putfield 15, 3) := by decide +kernel
theorem dX1_copyFrom_16 : decode cX1_copyFrom 16 = .ok (.aload_n 0, 1) := by decide +kernel
theorem dX1_copyFrom_17 : decode cX1_copyFrom 17 = .ok (.aload_n 1, 1) := by decide +kernel
theorem dX1_copyFrom_18 : decode cX1_copyFrom 18 = .ok (.getfield 18, 3) := by decide +kernel
theorem dX1_copyFrom_21 : decode cX1_copyFrom 21 = .ok (.putfield 18, 3) := by decide +kernel
theorem dX1_copyFrom_24 : decode cX1_copyFrom 24 = .ok (.aload_n 0, 1) := by decide +kernel
theorem dX1_copyFrom_25 : decode cX1_copyFrom 25 = .ok (.aload_n 1, 1) := by decide +kernel
theorem dX1_copyFrom_26 : decode cX1_copyFrom 26 = .ok (.getfield 21, 3) := by decide +kernel
theorem dX1_copyFrom_29 : decode cX1_copyFrom 29 = .ok (.putfield 21, 3) := by decide +kernel
theorem dX1_copyFrom_32 : decode cX1_copyFrom 32 = .ok (.aload_n 0, 1) := by decide +kernel
theorem dX1_copyFrom_33 : decode cX1_copyFrom 33 = .ok (.aload_n 1, 1) := by decide +kernel
theorem dX1_copyFrom_34 : decode cX1_copyFrom 34 = .ok (.getfield 24, 3) := by decide +kernel
theorem dX1_copyFrom_37 : decode cX1_copyFrom 37 = .ok (.putfield 24, 3) := by decide +kernel
theorem dX1_copyFrom_40 : decode cX1_copyFrom 40 = .ok (.aload_n 0, 1) := by decide +kernel
theorem dX1_copyFrom_41 : decode cX1_copyFrom 41 = .ok (.aload_n 1, 1) := by decide +kernel
theorem dX1_copyFrom_42 : decode cX1_copyFrom 42 = .ok (.getfield 27, 3) := by decide +kernel
theorem dX1_copyFrom_45 : decode cX1_copyFrom 45 = .ok (.putfield 27, 3) := by decide +kernel
theorem dX1_copyFrom_48 : decode cX1_copyFrom 48 = .ok (.aload_n 1, 1) := by decide +kernel
theorem dX1_copyFrom_49 : decode cX1_copyFrom 49 = .ok (.getfield 30, 3) := by decide +kernel
theorem dX1_copyFrom_52 : decode cX1_copyFrom 52 = .ok (.iconst 0, 1) := by decide +kernel
theorem dX1_copyFrom_53 : decode cX1_copyFrom 53 = .ok (.aload_n 0, 1) := by decide +kernel
theorem dX1_copyFrom_54 : decode cX1_copyFrom 54 = .ok (.getfield 30, 3) := by decide +kernel
theorem dX1_copyFrom_57 : decode cX1_copyFrom 57 = .ok (.iconst 0, 1) := by decide +kernel
theorem dX1_copyFrom_58 : decode cX1_copyFrom 58 = .ok (.iconst 5, 1) := by decide +kernel
theorem dX1_copyFrom_59 : decode cX1_copyFrom 59 = .ok (.invokestatic 67, 3) := by decide +kernel
theorem dX1_copyFrom_62 : decode cX1_copyFrom 62 = .ok (.aload_n 1, 1) := by decide +kernel
theorem dX1_copyFrom_63 : decode cX1_copyFrom 63 = .ok (.getfield 34, 3) := by decide +kernel
theorem dX1_copyFrom_66 : decode cX1_copyFrom 66 = .ok (.iconst 0, 1) := by decide +kernel
theorem dX1_copyFrom_67 : decode cX1_copyFrom 67 = .ok (.aload_n 0, 1) := by decide +kernel
theorem dX1_copyFrom_68 : decode cX1_copyFrom 68 = .ok (.getfield 34, 3) := by decide +kernel
theorem dX1_copyFrom_71 : decode cX1_copyFrom 71 = .ok (.iconst 0, 1) := by decide +kernel
theorem dX1_copyFrom_72 : decode cX1_copyFrom 72 = .ok (.iconst 5, 1) := by decide +kernel
theorem dX1_copyFrom_73 : decode cX1_copyFrom 73 = .ok (.invokestatic 67, 3) := by decide +kernel
theorem dX1_copyFrom_76 : decode cX1_copyFrom 76 = .ok (.aload_n 1, 1) := by decide +kernel
theorem dX1_copyFrom_77 : decode cX1_copyFrom 77 = .ok (.getfield 37, 3) := by decide +kernel
theorem dX1_copyFrom_80 : decode cX1_copyFrom 80 = .ok (.iconst 0, 1) := by decide +kernel
theorem dX1_copyFrom_81 : decode cX1_copyFrom 81 = .ok (.aload_n 0, 1) := by decide +kernel
theorem dX1_copyFrom_82 : decode cX1_copyFrom 82 = .ok (.getfield 37, 3) := by decide +kernel
theorem dX1_copyFrom_85 : decode cX1_copyFrom 85 = .ok (.iconst 0, 1) := by decide +kernel
theorem dX1_copyFrom_86 : decode cX1_copyFrom 86 = .ok (.iconst 5, 1) := by decide +kernel
theorem dX1_copyFrom_87 : decode cX1_copyFrom 87 = .ok (.invokestatic 67, 3) := by decide +kernel
theorem dX1_copyFrom_90 : decode cX1_copyFrom 90 = .ok (.aload_n 1, 1) := by decide +kernel
theorem dX1_copyFrom_91 : decode cX1_copyFrom 91 = .ok (.getfield 40, 3) := by decide +kernel
theorem dX1_copyFrom_94 : decode cX1_copyFrom 94 = .ok (.iconst 0, 1) := by decide +kernel
theorem dX1_copyFrom_95 : decode cX1_copyFrom 95 = .ok (.aload_n 0, 1) := by decide +kernel
theorem dX1_copyFrom_96 : decode cX1_copyFrom 96 = .ok (.getfield 40, 3) := by decide +kernel
theorem dX1_copyFrom_99 : decode cX1_copyFrom 99 = .ok (.iconst 0, 1) := by decide +kernel
theorem dX1_copyFrom_100 : decode cX1_copyFrom 100 = .ok (.iconst 5, 1) := by decide +kernel
theorem dX1_copyFrom_101 : decode cX1_copyFrom 101 = .ok (.invokestatic 67, 3) := by decide +kernel
theorem dX1_copyFrom_104 : decode cX1_copyFrom 104 = .ok (.aload_n 1, 1) := by decide +kernel
theorem dX1_copyFrom_105 : decode cX1_copyFrom 105 = .ok (.getfield 43, 3) := by decide +kernel
theorem dX1_copyFrom_108 : decode cX1_copyFrom 108 = .ok (.iconst 0, 1) := by decide +kernel
theorem dX1_copyFrom_109 : decode cX1_copyFrom 109 = .ok (.aload_n 0, 1) := by decide +kernel
theorem dX1_copyFrom_110 : decode cX1_copyFrom 110 = .ok (.getfield 43, 3) := by decide +kernel
theorem dX1_copyFrom_113 : decode cX1_copyFrom 113 = .ok (.iconst 0, 1) := by decide +kernel
theorem dX1_copyFrom_114 : decode cX1_copyFrom 114 = .ok (.iconst 5, 1) := by decide +kernel
theorem dX1_copyFrom_115 : decode cX1_copyFrom 115 = .ok (.invokestatic 67, 3) := by decide +kernel
theorem dX1_copyFrom_118 : decode cX1_copyFrom 118 = .ok (.aload_n 1, 1) := by decide +kernel
theorem dX1_copyFrom_119 : decode cX1_copyFrom 119 = .ok (.getfield 46, 3) := by decide +kernel
theorem dX1_copyFrom_122 : decode cX1_copyFrom 122 = .ok (.iconst 0, 1) := by decide +kernel
theorem dX1_copyFrom_123 : decode cX1_copyFrom 123 = .ok (.aload_n 0, 1) := by decide +kernel
theorem dX1_copyFrom_124 : decode cX1_copyFrom 124 = .ok (.getfield 46, 3) := by decide +kernel
theorem dX1_copyFrom_127 : decode cX1_copyFrom 127 = .ok (.iconst 0, 1) := by decide +kernel
theorem dX1_copyFrom_128 : decode cX1_copyFrom 128 = .ok (.iconst 4, 1) := by decide +kernel
theorem dX1_copyFrom_129 : decode cX1_copyFrom 129 = .ok (.invokestatic 67, 3) := by decide +kernel
theorem dX1_copyFrom_132 : decode cX1_copyFrom 132 = .ok (.aload_n 1, 1) := by decide +kernel
theorem dX1_copyFrom_133 : decode cX1_copyFrom 133 = .ok (.getfield 49, 3) := by decide +kernel
theorem dX1_copyFrom_136 : decode cX1_copyFrom 136 = .ok (.iconst 0, 1) := by decide +kernel
theorem dX1_copyFrom_137 : decode cX1_copyFrom 137 = .ok (.aload_n 0, 1) := by decide +kernel
theorem dX1_copyFrom_138 : decode cX1_copyFrom 138 = .ok (.getfield 49, 3) := by decide +kernel
theorem dX1_copyFrom_141 : decode cX1_copyFrom 141 = .ok (.iconst 0, 1) := by decide +kernel
theorem dX1_copyFrom_142 : decode cX1_copyFrom 142 = .ok (.iconst 4, 1) := by decide +kernel
theorem dX1_copyFrom_143 : decode cX1_copyFrom 143 = .ok (.invokestatic 67, 3) := by decide +kernel
theorem dX1_copyFrom_146 : decode cX1_copyFrom 146 = .ok (.aload_n 1, 1) := by decide +kernel
theorem dX1_copyFrom_147 : decode cX1_copyFrom 147 = .ok (.getfield 52, 3) := by decide +kernel
theorem dX1_copyFrom_150 : decode cX1_copyFrom 150 = .ok (.iconst 0, 1) := by decide +kernel
theorem dX1_copyFrom_151 : decode cX1_copyFrom 151 = .ok (.aload_n 0, 1) := by decide +kernel
theorem dX1_copyFrom_152 : decode cX1_copyFrom 152 = .ok (.getfield 52, 3) := by decide +kernel
theorem dX1_copyFrom_155 : decode cX1_copyFrom 155 = .ok (.iconst 0, 1) := by decide +kernel
theorem dX1_copyFrom_156 : decode cX1_copyFrom 156 = .ok (.bipush 36, 2) := by decide +kernel
theorem dX1_copyFrom_158 : decode cX1_copyFrom 158 = .ok (.invokestatic 67, 3) := by decide +kernel
theorem dX1_copyFrom_161 : decode cX1_copyFrom 161 = .ok (.aload_n 1, 1) := by decide +kernel
theorem dX1_copyFrom_162 : decode cX1_copyFrom 162 = .ok (.getfield 55, 3) := by decide +kernel
theorem dX1_copyFrom_165 : decode cX1_copyFrom 165 = .ok (.iconst 0, 1) := by decide +kernel
theorem dX1_copyFrom_166 : decode cX1_copyFrom 166 = .ok (.aload_n 0, 1) := by decide +kernel
theorem dX1_copyFrom_167 : decode cX1_copyFrom 167 = .ok (.getfield 55, 3) := by decide +kernel
theorem dX1_copyFrom_170 : decode cX1_copyFrom 170 = .ok (.iconst 0, 1) := by decide +kernel
theorem dX1_copyFrom_171 : decode cX1_copyFrom 171 = .ok (.sipush 176, 3) := by decide +kernel
theorem dX1_copyFrom_174 : decode cX1_copyFrom 174 = .ok (.invokestatic 67, 3) := by decide +kernel
theorem dX1_copyFrom_177 : decode cX1_copyFrom 177 = .ok (.return_, 1) := by decide +kernel
theorem dX1_has_0 : decode cX1_has 0 = .ok (.iload_n 1, 1) := by decide +kernel
theorem dX1_has_1 : decode cX1_has 1 = .ok (.ifCond .lt 15, 3) := by decide +kernel
theorem dX1_has_4 : decode cX1_has 4 = .ok (.iload_n 1, 1) := by decide +kernel
theorem dX1_has_5 : decode cX1_has 5 = .ok (.aload_n 0, 1) := by decide +kernel
theorem dX1_has_6 : decode cX1_has 6 = .ok (.getfield 18, 3) := by decide +kernel
theorem dX1_has_9 : decode cX1_has 9 = .ok (.if_icmp .ge 7, 3) := by decide +kernel
theorem dX1_has_12 : decode cX1_has 12 = .ok (.iconst 1, 1) := by decide +kernel
theorem dX1_has_13 : decode cX1_has 13 = .ok (.goto 4, 3) := by decide +kernel
theorem dX1_has_16 : decode cX1_has 16 = .ok (.iconst 0, 1) := by decide +kernel
theorem dX1_has_17 : decode cX1_has 17 = .ok (.ireturn, 1) := by decide +kernel
theorem dX1_everyWell_0 : decode cX1_everyWell 0 = .ok (.iconst 1, 1) := by decide +kernel
theorem dX1_everyWell_1 : decode cX1_everyWell 1 = .ok (.aload_n 0, 1) := by decide +kernel
theorem dX1_everyWell_2 : decode cX1_everyWell 2 = .ok (.getfield 18, 3) := by decide +kernel
theorem dX1_everyWell_5 : decode cX1_everyWell 5 = .ok (.ishl, 1) := by decide +kernel
theorem dX1_everyWell_6 : decode cX1_everyWell 6 = .ok (.iconst 1, 1) := by decide +kernel
theorem dX1_everyWell_7 : decode cX1_everyWell 7 = .ok (.isub, 1) := by decide +kernel
theorem dX1_everyWell_8 : decode cX1_everyWell 8 = .ok (.ireturn, 1) := by decide +kernel
theorem dX1_addWell_0 : decode cX1_addWell 0 = .ok (.aload_n 0, 1) := by decide +kernel
theorem dX1_addWell_1 : decode cX1_addWell 1 = .ok (.getfield 18, 3) := by decide +kernel
theorem dX1_addWell_4 : decode cX1_addWell 4 = .ok (.iconst 5, 1) := by decide +kernel
theorem dX1_addWell_5 : decode cX1_addWell 5 = .ok (.if_icmp .lt 6, 3) := by decide +kernel
theorem dX1_addWell_8 : decode cX1_addWell 8 = .ok (.bipush (-4), 2) := by decide +kernel
theorem dX1_addWell_10 : decode cX1_addWell 10 = .ok (.ireturn, 1) := by decide +kernel
theorem dX1_addWell_11 : decode cX1_addWell 11 = .ok (.aload_n 0, 1) := by decide +kernel
theorem dX1_addWell_12 : decode cX1_addWell 12 = .ok (.getfield 30, 3) := by decide +kernel
theorem dX1_addWell_15 : decode cX1_addWell 15 = .ok (.aload_n 0, 1) := by decide +kernel
theorem dX1_addWell_16 : decode cX1_addWell 16 = .ok (.getfield 18, 3) := by decide +kernel
theorem dX1_addWell_19 : decode cX1_addWell 19 = .ok (.iload_n 1, 1) := by decide +kernel
theorem dX1_addWell_20 : decode cX1_addWell 20 = .ok (.iastore, 1) := by decide +kernel
theorem dX1_addWell_21 : decode cX1_addWell 21 = .ok (.aload_n 0, 1) := by decide +kernel
theorem dX1_addWell_22 : decode cX1_addWell 22 = .ok (.getfield 34, 3) := by decide +kernel
theorem dX1_addWell_25 : decode cX1_addWell 25 = .ok (.aload_n 0, 1) := by decide +kernel
theorem dX1_addWell_26 : decode cX1_addWell 26 = .ok (.getfield 18, 3) := by decide +kernel
theorem dX1_addWell_29 : decode cX1_addWell 29 = .ok (.iload_n 2, 1) := by decide +kernel
theorem dX1_addWell_30 : decode cX1_addWell 30 = .ok (.iastore, 1) := by decide +kernel
theorem dX1_addWell_31 : decode cX1_addWell 31 = .ok (.aload_n 0, 1) := by decide +kernel
theorem dX1_addWell_32 : decode cX1_addWell 32 = .ok (.getfield 37, 3) := by decide +kernel
theorem dX1_addWell_35 : decode cX1_addWell 35 = .ok (.aload_n 0, 1) := by decide +kernel
theorem dX1_addWell_36 : decode cX1_addWell 36 = .ok (.getfield 18, 3) := by decide +kernel
theorem dX1_addWell_39 : decode cX1_addWell 39 = .ok (.iload_n 3, 1) := by decide +kernel
theorem dX1_addWell_40 : decode cX1_addWell 40 = .ok (.iastore, 1) := by decide +kernel
theorem dX1_addWell_41 : decode cX1_addWell 41 = .ok (.aload_n 0, 1) := by decide +kernel
theorem dX1_addWell_42 : decode cX1_addWell 42 = .ok (.getfield 40, 3) := by decide +kernel
theorem dX1_addWell_45 : decode cX1_addWell 45 = .ok (.aload_n 0, 1) := by decide +kernel
theorem dX1_addWell_46 : decode cX1_addWell 46 = .ok (.getfield 18, 3) := by decide +kernel
theorem dX1_addWell_49 : decode cX1_addWell 49 = .ok (.iconst 0, 1) := by decide +kernel
theorem dX1_addWell_50 : decode cX1_addWell 50 = .ok (.iastore, 1) := by decide +kernel
theorem dX1_addWell_51 : decode cX1_addWell 51 = .ok (.aload_n 0, 1) := by decide +kernel
theorem dX1_addWell_52 : decode cX1_addWell 52 = .ok (.getfield 43, 3) := by decide +kernel
theorem dX1_addWell_55 : decode cX1_addWell 55 = .ok (.aload_n 0, 1) := by decide +kernel
theorem dX1_addWell_56 : decode cX1_addWell 56 = .ok (.getfield 18, 3) := by decide +kernel
theorem dX1_addWell_59 : decode cX1_addWell 59 = .ok (.iconst 0, 1) := by decide +kernel
theorem dX1_addWell_60 : decode cX1_addWell 60 = .ok (.iastore, 1) := by decide +kernel
theorem dX1_addWell_61 : decode cX1_addWell 61 = .ok (.aload_n 0, 1) := by decide +kernel
theorem dX1_addWell_62 : decode cX1_addWell 62 = .ok (.iconst 0, 1) := by decide +kernel
theorem dX1_addWell_63 : decode cX1_addWell 63 = .ok (.putfield 27, 3) := by decide +kernel
theorem dX1_addWell_66 : decode cX1_addWell 66 = .ok (.aload_n 0, 1) := by decide +kernel
theorem dX1_addWell_67 : decode cX1_addWell 67 = .ok (.dup, 1) := by decide +kernel
theorem dX1_addWell_68 : decode cX1_addWell 68 = .ok (.getfield 18, 3) := by decide +kernel
theorem dX1_addWell_71 : decode cX1_addWell 71 = .ok (.iconst 1, 1) := by decide +kernel
theorem dX1_addWell_72 : decode cX1_addWell 72 = .ok (.iadd, 1) := by decide +kernel
theorem dX1_addWell_73 : decode cX1_addWell 73 = .ok (.putfield 18, 3) := by decide +kernel
theorem dX1_addWell_76 : decode cX1_addWell 76 = .ok (.aload_n 0, 1) := by decide +kernel
theorem dX1_addWell_77 : decode cX1_addWell 77 = .ok (.getfield 18, 3) := by decide +kernel
theorem dX1_addWell_80 : decode cX1_addWell 80 = .ok (.iconst 1, 1) := by decide +kernel
theorem dX1_addWell_81 : decode cX1_addWell 81 = .ok (.isub, 1) := by decide +kernel
theorem dX1_addWell_82 : decode cX1_addWell 82 = .ok (.ireturn, 1) := by decide +kernel
theorem dX1_addLeft_0 : decode cX1_addLeft 0 = .ok (.aload_n 0, 1) := by decide +kernel
theorem dX1_addLeft_1 : decode cX1_addLeft 1 = .ok (.getfield 21, 3) := by decide +kernel
theorem dX1_addLeft_4 : decode cX1_addLeft 4 = .ok (.iconst 4, 1) := by decide +kernel
theorem dX1_addLeft_5 : decode cX1_addLeft 5 = .ok (.if_icmp .lt 6, 3) := by decide +kernel
theorem dX1_addLeft_8 : decode cX1_addLeft 8 = .ok (.bipush (-4), 2) := by decide +kernel
theorem dX1_addLeft_10 : decode cX1_addLeft 10 = .ok (.ireturn, 1) := by decide +kernel
theorem dX1_addLeft_11 : decode cX1_addLeft 11 = .ok (.aload_n 0, 1) := by decide +kernel
theorem dX1_addLeft_12 : decode cX1_addLeft 12 = .ok (.getfield 46, 3) := by decide +kernel
theorem dX1_addLeft_15 : decode cX1_addLeft 15 = .ok (.aload_n 0, 1) := by decide +kernel
theorem dX1_addLeft_16 : decode cX1_addLeft 16 = .ok (.getfield 21, 3) := by decide +kernel
theorem dX1_addLeft_19 : decode cX1_addLeft 19 = .ok (.iload_n 1, 1) := by decide +kernel
theorem dX1_addLeft_20 : decode cX1_addLeft 20 = .ok (.iastore, 1) := by decide +kernel
theorem dX1_addLeft_21 : decode cX1_addLeft 21 = .ok (.aload_n 0, 1) := by decide +kernel
theorem dX1_addLeft_22 : decode cX1_addLeft 22 = .ok (.getfield 49, 3) := by decide +kernel
theorem dX1_addLeft_25 : decode cX1_addLeft 25 = .ok (.aload_n 0, 1) := by decide +kernel
theorem dX1_addLeft_26 : decode cX1_addLeft 26 = .ok (.getfield 21, 3) := by decide +kernel
theorem dX1_addLeft_29 : decode cX1_addLeft 29 = .ok (.iload_n 2, 1) := by decide +kernel
theorem dX1_addLeft_30 : decode cX1_addLeft 30 = .ok (.iastore, 1) := by decide +kernel
theorem dX1_addLeft_31 : decode cX1_addLeft 31 = .ok (.aload_n 0, 1) := by decide +kernel
theorem dX1_addLeft_32 : decode cX1_addLeft 32 = .ok (.dup, 1) := by decide +kernel
theorem dX1_addLeft_33 : decode cX1_addLeft 33 = .ok (.getfield 21, 3) := by decide +kernel
theorem dX1_addLeft_36 : decode cX1_addLeft 36 = .ok (.iconst 1, 1) := by decide +kernel
theorem dX1_addLeft_37 : decode cX1_addLeft 37 = .ok (.iadd, 1) := by decide +kernel
theorem dX1_addLeft_38 : decode cX1_addLeft 38 = .ok (.putfield 21, 3) := by decide +kernel
theorem dX1_addLeft_41 : decode cX1_addLeft 41 = .ok (.aload_n 0, 1) := by decide +kernel
theorem dX1_addLeft_42 : decode cX1_addLeft 42 = .ok (.getfield 21, 3) := by decide +kernel
theorem dX1_addLeft_45 : decode cX1_addLeft 45 = .ok (.ireturn, 1) := by decide +kernel
theorem dX1_addNote_0 : decode cX1_addNote 0 = .ok (.aload_n 0, 1) := by decide +kernel
theorem dX1_addNote_1 : decode cX1_addNote 1 = .ok (.getfield 24, 3) := by decide +kernel
theorem dX1_addNote_4 : decode cX1_addNote 4 = .ok (.bipush 6, 2) := by decide +kernel
theorem dX1_addNote_6 : decode cX1_addNote 6 = .ok (.if_icmp .lt 6, 3) := by decide +kernel
theorem dX1_addNote_9 : decode cX1_addNote 9 = .ok (.bipush (-4), 2) := by decide +kernel
theorem dX1_addNote_11 : decode cX1_addNote 11 = .ok (.ireturn, 1) := by decide +kernel
theorem dX1_addNote_12 : decode cX1_addNote 12 = .ok (.aload_n 0, 1) := by decide +kernel
theorem dX1_addNote_13 : decode cX1_addNote 13 = .ok (.getfield 24, 3) := by decide +kernel
theorem dX1_addNote_16 : decode cX1_addNote 16 = .ok (.bipush 6, 2) := by decide +kernel
theorem dX1_addNote_18 : decode cX1_addNote 18 = .ok (.imul, 1) := by decide +kernel
theorem dX1_addNote_19 : decode cX1_addNote 19 = .ok (.istore 7, 2) := by decide +kernel
theorem dX1_addNote_21 : decode cX1_addNote 21 = .ok (.aload_n 0, 1) := by decide +kernel
theorem dX1_addNote_22 : decode cX1_addNote 22 = .ok (.getfield 52, 3) := by decide +kernel
theorem dX1_addNote_25 : decode cX1_addNote 25 = .ok (.iload 7, 2) := by decide +kernel
theorem dX1_addNote_27 : decode cX1_addNote 27 = .ok (.iload_n 1, 1) := by decide +kernel
theorem dX1_addNote_28 : decode cX1_addNote 28 = .ok (.iastore, 1) := by decide +kernel
theorem dX1_addNote_29 : decode cX1_addNote 29 = .ok (.aload_n 0, 1) := by decide +kernel
theorem dX1_addNote_30 : decode cX1_addNote 30 = .ok (.getfield 52, 3) := by decide +kernel
theorem dX1_addNote_33 : decode cX1_addNote 33 = .ok (.iload 7, 2) := by decide +kernel
theorem dX1_addNote_35 : decode cX1_addNote 35 = .ok (.iconst 1, 1) := by decide +kernel
theorem dX1_addNote_36 : decode cX1_addNote 36 = .ok (.iadd, 1) := by decide +kernel
theorem dX1_addNote_37 : decode cX1_addNote 37 = .ok (.iload_n 2, 1) := by decide +kernel
theorem dX1_addNote_38 : decode cX1_addNote 38 = .ok (.iastore, 1) := by decide +kernel
theorem dX1_addNote_39 : decode cX1_addNote 39 = .ok (.aload_n 0, 1) := by decide +kernel
theorem dX1_addNote_40 : decode cX1_addNote 40 = .ok (.getfield 52, 3) := by decide +kernel
theorem dX1_addNote_43 : decode cX1_addNote 43 = .ok (.iload 7, 2) := by decide +kernel
theorem dX1_addNote_45 : decode cX1_addNote 45 = .ok (.iconst 2, 1) := by decide +kernel
theorem dX1_addNote_46 : decode cX1_addNote 46 = .ok (.iadd, 1) := by decide +kernel
theorem dX1_addNote_47 : decode cX1_addNote 47 = .ok (.iload_n 3, 1) := by decide +kernel
theorem dX1_addNote_48 : decode cX1_addNote 48 = .ok (.iastore, 1) := by decide +kernel
theorem dX1_addNote_49 : decode cX1_addNote 49 = .ok (.aload_n 0, 1) := by decide +kernel
theorem dX1_addNote_50 : decode cX1_addNote 50 = .ok (.getfield 52, 3) := by decide +kernel
theorem dX1_addNote_53 : decode cX1_addNote 53 = .ok (.iload 7, 2) := by decide +kernel
theorem dX1_addNote_55 : decode cX1_addNote 55 = .ok (.iconst 3, 1) := by decide +kernel
theorem dX1_addNote_56 : decode cX1_addNote 56 = .ok (.iadd, 1) := by decide +kernel
theorem dX1_addNote_57 : decode cX1_addNote 57 = .ok (.iload 4, 2) := by decide +kernel
theorem dX1_addNote_59 : decode cX1_addNote 59 = .ok (.iastore, 1) := by decide +kernel
theorem dX1_addNote_60 : decode cX1_addNote 60 = .ok (.aload_n 0, 1) := by decide +kernel
theorem dX1_addNote_61 : decode cX1_addNote 61 = .ok (.getfield 52, 3) := by decide +kernel
theorem dX1_addNote_64 : decode cX1_addNote 64 = .ok (.iload 7, 2) := by decide +kernel
theorem dX1_addNote_66 : decode cX1_addNote 66 = .ok (.iconst 4, 1) := by decide +kernel
theorem dX1_addNote_67 : decode cX1_addNote 67 = .ok (.iadd, 1) := by decide +kernel
theorem dX1_addNote_68 : decode cX1_addNote 68 = .ok (.iload 5, 2) := by decide +kernel
theorem dX1_addNote_70 : decode cX1_addNote 70 = .ok (.iastore, 1) := by decide +kernel
theorem dX1_addNote_71 : decode cX1_addNote 71 = .ok (.aload_n 0, 1) := by decide +kernel
theorem dX1_addNote_72 : decode cX1_addNote 72 = .ok (.getfield 52, 3) := by decide +kernel
theorem dX1_addNote_75 : decode cX1_addNote 75 = .ok (.iload 7, 2) := by decide +kernel
theorem dX1_addNote_77 : decode cX1_addNote 77 = .ok (.iconst 5, 1) := by decide +kernel
theorem dX1_addNote_78 : decode cX1_addNote 78 = .ok (.iadd, 1) := by decide +kernel
theorem dX1_addNote_79 : decode cX1_addNote 79 = .ok (.iload 6, 2) := by decide +kernel
theorem dX1_addNote_81 : decode cX1_addNote 81 = .ok (.iastore, 1) := by decide +kernel
theorem dX1_addNote_82 : decode cX1_addNote 82 = .ok (.aload_n 0, 1) := by decide +kernel
theorem dX1_addNote_83 : decode cX1_addNote 83 = .ok (.dup, 1) := by decide +kernel
theorem dX1_addNote_84 : decode cX1_addNote 84 = .ok (.getfield 24, 3) := by decide +kernel
theorem dX1_addNote_87 : decode cX1_addNote 87 = .ok (.iconst 1, 1) := by decide +kernel
theorem dX1_addNote_88 : decode cX1_addNote 88 = .ok (.iadd, 1) := by decide +kernel
theorem dX1_addNote_89 : decode cX1_addNote 89 = .ok (.putfield 24, 3) := by decide +kernel
theorem dX1_addNote_92 : decode cX1_addNote 92 = .ok (.aload_n 0, 1) := by decide +kernel
theorem dX1_addNote_93 : decode cX1_addNote 93 = .ok (.getfield 24, 3) := by decide +kernel
theorem dX1_addNote_96 : decode cX1_addNote 96 = .ok (.ireturn, 1) := by decide +kernel
theorem dX1_remember_0 : decode cX1_remember 0 = .ok (.aload_n 0, 1) := by decide +kernel
theorem dX1_remember_1 : decode cX1_remember 1 = .ok (.getfield 27, 3) := by decide +kernel
theorem dX1_remember_4 : decode cX1_remember 4 = .ok (.bipush 8, 2) := by decide +kernel
theorem dX1_remember_6 : decode cX1_remember 6 = .ok (.if_icmp .lt 30, 3) := by decide +kernel
theorem dX1_remember_9 : decode cX1_remember 9 = .ok (.aload_n 0, 1) := by decide +kernel
theorem dX1_remember_10 : decode cX1_remember 10 = .ok (.bipush 7, 2) := by decide +kernel
theorem dX1_remember_12 : decode cX1_remember 12 = .ok (.putfield 27, 3) := by decide +kernel
theorem dX1_remember_15 : decode cX1_remember 15 = .ok (.aload_n 0, 1) := by decide +kernel
theorem dX1_remember_16 : decode cX1_remember 16 = .ok (.getfield 55, 3) := by decide +kernel
theorem dX1_remember_19 : decode cX1_remember 19 = .ok (.bipush 22, 2) := by decide +kernel
theorem dX1_remember_21 : decode cX1_remember 21 = .ok (.aload_n 0, 1) := by decide +kernel
theorem dX1_remember_22 : decode cX1_remember 22 = .ok (.getfield 55, 3) := by decide +kernel
theorem dX1_remember_25 : decode cX1_remember 25 = .ok (.iconst 0, 1) := by decide +kernel
theorem dX1_remember_26 : decode cX1_remember 26 = .ok (.aload_n 0, 1) := by decide +kernel
theorem dX1_remember_27 : decode cX1_remember 27 = .ok (.getfield 27, 3) := by decide +kernel
theorem dX1_remember_30 : decode cX1_remember 30 = .ok (.bipush 22, 2) := by decide +kernel
theorem dX1_remember_32 : decode cX1_remember 32 = .ok (.imul, 1) := by decide +kernel
theorem dX1_remember_33 : decode cX1_remember 33 = .ok (.invokestatic 67, 3) := by decide +kernel
theorem dX1_remember_36 : decode cX1_remember 36 = .ok (.aload_n 0, 1) := by decide +kernel
theorem dX1_remember_37 : decode cX1_remember 37 = .ok (.getfield 27, 3) := by decide +kernel
theorem dX1_remember_40 : decode cX1_remember 40 = .ok (.bipush 22, 2) := by decide +kernel
theorem dX1_remember_42 : decode cX1_remember 42 = .ok (.imul, 1) := by decide +kernel
theorem dX1_remember_43 : decode cX1_remember 43 = .ok (.istore_n 1, 1) := by decide +kernel
theorem dX1_remember_44 : decode cX1_remember 44 = .ok (.aload_n 0, 1) := by decide +kernel
theorem dX1_remember_45 : decode cX1_remember 45 = .ok (.getfield 55, 3) := by decide +kernel
theorem dX1_remember_48 : decode cX1_remember 48 = .ok (.iload_n 1, 1) := by decide +kernel
theorem dX1_remember_49 : decode cX1_remember 49 = .ok (.aload_n 0, 1) := by decide +kernel
theorem dX1_remember_50 : decode cX1_remember 50 = .ok (.getfield 9, 3) := by decide +kernel
theorem dX1_remember_53 : decode cX1_remember 53 = .ok (.iastore, 1) := by decide +kernel
theorem dX1_remember_54 : decode cX1_remember 54 = .ok (.aload_n 0, 1) := by decide +kernel
theorem dX1_remember_55 : decode cX1_remember 55 = .ok (.getfield 55, 3) := by decide +kernel
theorem dX1_remember_58 : decode cX1_remember 58 = .ok (.iload_n 1, 1) := by decide +kernel
theorem dX1_remember_59 : decode cX1_remember 59 = .ok (.iconst 1, 1) := by decide +kernel
theorem dX1_remember_60 : decode cX1_remember 60 = .ok (.iadd, 1) := by decide +kernel
theorem dX1_remember_61 : decode cX1_remember 61 = .ok (.aload_n 0, 1) := by decide +kernel
theorem dX1_remember_62 : decode cX1_remember 62 = .ok (.getfield 15, 3) := by decide +kernel
theorem dX1_remember_65 : decode cX1_remember 65 = .ok (.iastore, 1) := by decide +kernel
theorem dX1_remember_66 : decode cX1_remember 66 = .ok (.aload_n 0, 1) := by decide +kernel
theorem dX1_remember_67 : decode cX1_remember 67 = .ok (.getfield 34, 3) := by decide +kernel
theorem dX1_remember_70 : decode cX1_remember 70 = .ok (.iconst 0, 1) := by decide +kernel
theorem dX1_remember_71 : decode cX1_remember 71 = .ok (.aload_n 0, 1) := by decide +kernel
theorem dX1_remember_72 : decode cX1_remember 72 = .ok (.getfield 55, 3) := by decide +kernel
theorem dX1_remember_75 : decode cX1_remember 75 = .ok (.iload_n 1, 1) := by decide +kernel
theorem dX1_remember_76 : decode cX1_remember 76 = .ok (.iconst 2, 1) := by decide +kernel
theorem dX1_remember_77 : decode cX1_remember 77 = .ok (.iadd, 1) := by decide +kernel
theorem dX1_remember_78 : decode cX1_remember 78 = .ok (.iconst 5, 1) := by decide +kernel
theorem dX1_remember_79 : decode cX1_remember 79 = .ok (.invokestatic 67, 3) := by decide +kernel
theorem dX1_remember_82 : decode cX1_remember 82 = .ok (.aload_n 0, 1) := by decide +kernel
theorem dX1_remember_83 : decode cX1_remember 83 = .ok (.getfield 37, 3) := by decide +kernel
theorem dX1_remember_86 : decode cX1_remember 86 = .ok (.iconst 0, 1) := by decide +kernel
theorem dX1_remember_87 : decode cX1_remember 87 = .ok (.aload_n 0, 1) := by decide +kernel
theorem dX1_remember_88 : decode cX1_remember 88 = .ok (.getfield 55, 3) := by decide +kernel
theorem dX1_remember_91 : decode cX1_remember 91 = .ok (.iload_n 1, 1) := by decide +kernel
theorem dX1_remember_92 : decode cX1_remember 92 = .ok (.iconst 2, 1) := by decide +kernel
theorem dX1_remember_93 : decode cX1_remember 93 = .ok (.iadd, 1) := by decide +kernel
theorem dX1_remember_94 : decode cX1_remember 94 = .ok (.iconst 5, 1) := by decide +kernel
theorem dX1_remember_95 : decode cX1_remember 95 = .ok (.iadd, 1) := by decide +kernel
theorem dX1_remember_96 : decode cX1_remember 96 = .ok (.iconst 5, 1) := by decide +kernel
theorem dX1_remember_97 : decode cX1_remember 97 = .ok (.invokestatic 67, 3) := by decide +kernel
theorem dX1_remember_100 : decode cX1_remember 100 = .ok (.aload_n 0, 1) := by decide +kernel
theorem dX1_remember_101 : decode cX1_remember 101 = .ok (.getfield 40, 3) := by decide +kernel
theorem dX1_remember_104 : decode cX1_remember 104 = .ok (.iconst 0, 1) := by decide +kernel
theorem dX1_remember_105 : decode cX1_remember 105 = .ok (.aload_n 0, 1) := by decide +kernel
theorem dX1_remember_106 : decode cX1_remember 106 = .ok (.getfield 55, 3) := by decide +kernel
theorem dX1_remember_109 : decode cX1_remember 109 = .ok (.iload_n 1, 1) := by decide +kernel
theorem dX1_remember_110 : decode cX1_remember 110 = .ok (.iconst 2, 1) := by decide +kernel
theorem dX1_remember_111 : decode cX1_remember 111 = .ok (.iadd, 1) := by decide +kernel
theorem dX1_remember_112 : decode cX1_remember 112 = .ok (.bipush 10, 2) := by decide +kernel
theorem dX1_remember_114 : decode cX1_remember 114 = .ok (.iadd, 1) := by decide +kernel
theorem dX1_remember_115 : decode cX1_remember 115 = .ok (.iconst 5, 1) := by decide +kernel
theorem dX1_remember_116 : decode cX1_remember 116 = .ok (.invokestatic 67, 3) := by decide +kernel
theorem dX1_remember_119 : decode cX1_remember 119 = .ok (.aload_n 0, 1) := by decide +kernel
theorem dX1_remember_120 : decode cX1_remember 120 = .ok (.getfield 43, 3) := by decide +kernel
theorem dX1_remember_123 : decode cX1_remember 123 = .ok (.iconst 0, 1) := by decide +kernel
theorem dX1_remember_124 : decode cX1_remember 124 = .ok (.aload_n 0, 1) := by decide +kernel
theorem dX1_remember_125 : decode cX1_remember 125 = .ok (.getfield 55, 3) := by decide +kernel
theorem dX1_remember_128 : decode cX1_remember 128 = .ok (.iload_n 1, 1) := by decide +kernel
theorem dX1_remember_129 : decode cX1_remember 129 = .ok (.iconst 2, 1) := by decide +kernel
theorem dX1_remember_130 : decode cX1_remember 130 = .ok (.iadd, 1) := by decide +kernel
theorem dX1_remember_131 : decode cX1_remember 131 = .ok (.bipush 15, 2) := by decide +kernel
theorem dX1_remember_133 : decode cX1_remember 133 = .ok (.iadd, 1) := by decide +kernel
theorem dX1_remember_134 : decode cX1_remember 134 = .ok (.iconst 5, 1) := by decide +kernel
theorem dX1_remember_135 : decode cX1_remember 135 = .ok (.invokestatic 67, 3) := by decide +kernel
theorem dX1_remember_138 : decode cX1_remember 138 = .ok (.aload_n 0, 1) := by decide +kernel
theorem dX1_remember_139 : decode cX1_remember 139 = .ok (.dup, 1) := by decide +kernel
theorem dX1_remember_140 : decode cX1_remember 140 = .ok (.getfield 27, 3) := by decide +kernel
theorem dX1_remember_143 : decode cX1_remember 143 = .ok (.iconst 1, 1) := by decide +kernel
theorem dX1_remember_144 : decode cX1_remember 144 = .ok (.iadd, 1) := by decide +kernel
theorem dX1_remember_145 : decode cX1_remember 145 = .ok (.putfield 27, 3) := by decide +kernel
theorem dX1_remember_148 : decode cX1_remember 148 = .ok (.return_, 1) := by decide +kernel
theorem dX1_goBack_0 : decode cX1_goBack 0 = .ok (.aload_n 0, 1) := by decide +kernel
theorem dX1_goBack_1 : decode cX1_goBack 1 = .ok (.getfield 27, 3) := by decide +kernel
theorem dX1_goBack_4 : decode cX1_goBack 4 = .ok (.ifCond .gt 4, 3) := by decide +kernel
theorem dX1_goBack_7 : decode cX1_goBack 7 = .ok (.return_, 1) := by decide +kernel
theorem dX1_goBack_8 : decode cX1_goBack 8 = .ok (.aload_n 0, 1) := by decide +kernel
theorem dX1_goBack_9 : decode cX1_goBack 9 = .ok (.dup, 1) := by decide +kernel
theorem dX1_goBack_10 : decode cX1_goBack 10 = .ok (.getfield 27, 3) := by decide +kernel
theorem dX1_goBack_13 : decode cX1_goBack 13 = .ok (.iconst 1, 1) := by decide +kernel
theorem dX1_goBack_14 : decode cX1_goBack 14 = .ok (.isub, 1) := by decide +kernel
theorem dX1_goBack_15 : decode cX1_goBack 15 = .ok (.putfield 27, 3) := by decide +kernel
theorem dX1_goBack_18 : decode cX1_goBack 18 = .ok (.aload_n 0, 1) := by decide +kernel
theorem dX1_goBack_19 : decode cX1_goBack 19 = .ok (.getfield 27, 3) := by decide +kernel
theorem dX1_goBack_22 : decode cX1_goBack 22 = .ok (.bipush 22, 2) := by decide +kernel
theorem dX1_goBack_24 : decode cX1_goBack 24 = .ok (.imul, 1) := by decide +kernel
theorem dX1_goBack_25 : decode cX1_goBack 25 = .ok (.istore_n 1, 1) := by decide +kernel
theorem dX1_goBack_26 : decode cX1_goBack 26 = .ok (.aload_n 0, 1) := by decide +kernel
theorem dX1_goBack_27 : decode cX1_goBack 27 = .ok (.aload_n 0, 1) := by decide +kernel
theorem dX1_goBack_28 : decode cX1_goBack 28 = .ok (.getfield 55, 3) := by decide +kernel
theorem dX1_goBack_31 : decode cX1_goBack 31 = .ok (.iload_n 1, 1) := by decide +kernel
theorem dX1_goBack_32 : decode cX1_goBack 32 = .ok (.iaload, 1) := by decide +kernel
theorem dX1_goBack_33 : decode cX1_goBack 33 = .ok (.putfield 9, 3) := by decide +kernel
theorem dX1_goBack_36 : decode cX1_goBack 36 = .ok (.aload_n 0, 1) := by decide +kernel
theorem dX1_goBack_37 : decode cX1_goBack 37 = .ok (.aload_n 0, 1) := by decide +kernel
theorem dX1_goBack_38 : decode cX1_goBack 38 = .ok (.getfield 55, 3) := by decide +kernel
theorem dX1_goBack_41 : decode cX1_goBack 41 = .ok (.iload_n 1, 1) := by decide +kernel
theorem dX1_goBack_42 : decode cX1_goBack 42 = .ok (.iconst 1, 1) := by decide +kernel
theorem dX1_goBack_43 : decode cX1_goBack 43 = .ok (.iadd, 1) := by decide +kernel
theorem dX1_goBack_44 : decode cX1_goBack 44 = .ok (.iaload, 1) := by decide +kernel
theorem dX1_goBack_45 : decode cX1_goBack 45 = .ok (.putfield 15, 3) := by decide +kernel
theorem dX1_goBack_48 : decode cX1_goBack 48 = .ok (.aload_n 0, 1) := by decide +kernel
theorem dX1_goBack_49 : decode cX1_goBack 49 = .ok (.getfield 55, 3) := by decide +kernel
theorem dX1_goBack_52 : decode cX1_goBack 52 = .ok (.iload_n 1, 1) := by decide +kernel
theorem dX1_goBack_53 : decode cX1_goBack 53 = .ok (.iconst 2, 1) := by decide +kernel
theorem dX1_goBack_54 : decode cX1_goBack 54 = .ok (.iadd, 1) := by decide +kernel
theorem dX1_goBack_55 : decode cX1_goBack 55 = .ok (.aload_n 0, 1) := by decide +kernel
theorem dX1_goBack_56 : decode cX1_goBack 56 = .ok (.getfield 34, 3) := by decide +kernel
theorem dX1_goBack_59 : decode cX1_goBack 59 = .ok (.iconst 0, 1) := by decide +kernel
theorem dX1_goBack_60 : decode cX1_goBack 60 = .ok (.iconst 5, 1) := by decide +kernel
theorem dX1_goBack_61 : decode cX1_goBack 61 = .ok (.invokestatic 67, 3) := by decide +kernel
theorem dX1_goBack_64 : decode cX1_goBack 64 = .ok (.aload_n 0, 1) := by decide +kernel
theorem dX1_goBack_65 : decode cX1_goBack 65 = .ok (.getfield 55, 3) := by decide +kernel
theorem dX1_goBack_68 : decode cX1_goBack 68 = .ok (.iload_n 1, 1) := by decide +kernel
theorem dX1_goBack_69 : decode cX1_goBack 69 = .ok (.iconst 2, 1) := by decide +kernel
theorem dX1_goBack_70 : decode cX1_goBack 70 = .ok (.iadd, 1) := by decide +kernel
theorem dX1_goBack_71 : decode cX1_goBack 71 = .ok (.iconst 5, 1) := by decide +kernel
theorem dX1_goBack_72 : decode cX1_goBack 72 = .ok (.iadd, 1) := by decide +kernel
theorem dX1_goBack_73 : decode cX1_goBack 73 = .ok (.aload_n 0, 1) := by decide +kernel
theorem dX1_goBack_74 : decode cX1_goBack 74 = .ok (.getfield 37, 3) := by decide +kernel
theorem dX1_goBack_77 : decode cX1_goBack 77 = .ok (.iconst 0, 1) := by decide +kernel
theorem dX1_goBack_78 : decode cX1_goBack 78 = .ok (.iconst 5, 1) := by decide +kernel
theorem dX1_goBack_79 : decode cX1_goBack 79 = .ok (.invokestatic 67, 3) := by decide +kernel
theorem dX1_goBack_82 : decode cX1_goBack 82 = .ok (.aload_n 0, 1) := by decide +kernel
theorem dX1_goBack_83 : decode cX1_goBack 83 = .ok (.getfield 55, 3) := by decide +kernel
theorem dX1_goBack_86 : decode cX1_goBack 86 = .ok (.iload_n 1, 1) := by decide +kernel
theorem dX1_goBack_87 : decode cX1_goBack 87 = .ok (.iconst 2, 1) := by decide +kernel
theorem dX1_goBack_88 : decode cX1_goBack 88 = .ok (.iadd, 1) := by decide +kernel
theorem dX1_goBack_89 : decode cX1_goBack 89 = .ok (.bipush 10, 2) := by decide +kernel
theorem dX1_goBack_91 : decode cX1_goBack 91 = .ok (.iadd, 1) := by decide +kernel
theorem dX1_goBack_92 : decode cX1_goBack 92 = .ok (.aload_n 0, 1) := by decide +kernel
theorem dX1_goBack_93 : decode cX1_goBack 93 = .ok (.getfield 40, 3) := by decide +kernel
theorem dX1_goBack_96 : decode cX1_goBack 96 = .ok (.iconst 0, 1) := by decide +kernel
theorem dX1_goBack_97 : decode cX1_goBack 97 = .ok (.iconst 5, 1) := by decide +kernel
theorem dX1_goBack_98 : decode cX1_goBack 98 = .ok (.invokestatic 67, 3) := by decide +kernel
theorem dX1_goBack_101 : decode cX1_goBack 101 = .ok (.aload_n 0, 1) := by decide +kernel
theorem dX1_goBack_102 : decode cX1_goBack 102 = .ok (.getfield 55, 3) := by decide +kernel
theorem dX1_goBack_105 : decode cX1_goBack 105 = .ok (.iload_n 1, 1) := by decide +kernel
theorem dX1_goBack_106 : decode cX1_goBack 106 = .ok (.iconst 2, 1) := by decide +kernel
theorem dX1_goBack_107 : decode cX1_goBack 107 = .ok (.iadd, 1) := by decide +kernel
theorem dX1_goBack_108 : decode cX1_goBack 108 = .ok (.bipush 15, 2) := by decide +kernel
theorem dX1_goBack_110 : decode cX1_goBack 110 = .ok (.iadd, 1) := by decide +kernel
theorem dX1_goBack_111 : decode cX1_goBack 111 = .ok (.aload_n 0, 1) := by decide +kernel
theorem dX1_goBack_112 : decode cX1_goBack 112 = .ok (.getfield 43, 3) := by decide +kernel
theorem dX1_goBack_115 : decode cX1_goBack 115 = .ok (.iconst 0, 1) := by decide +kernel
theorem dX1_goBack_116 : decode cX1_goBack 116 = .ok (.iconst 5, 1) := by decide +kernel
theorem dX1_goBack_117 : decode cX1_goBack 117 = .ok (.invokestatic 67, 3) := by decide +kernel
theorem dX1_goBack_120 : decode cX1_goBack 120 = .ok (.return_, 1) := by decide +kernel
theorem dX1_passDay_0 : decode cX1_passDay 0 = .ok (.aload_n 0, 1) := by decide +kernel
theorem dX1_passDay_1 : decode cX1_passDay 1 = .ok (.getfield 15, 3) := by decide +kernel
theorem dX1_passDay_4 : decode cX1_passDay 4 = .ok (.sipush 999, 3) := by decide +kernel
theorem dX1_passDay_7 : decode cX1_passDay 7 = .ok (.if_icmp .lt 5, 3) := by decide +kernel
theorem dX1_passDay_10 : decode cX1_passDay 10 = .ok (.iconst 0, 1) := by decide +kernel
theorem dX1_passDay_11 : decode cX1_passDay 11 = .ok (.ireturn, 1) := by decide +kernel
theorem dX1_passDay_12 : decode cX1_passDay 12 = .ok (.iconst 0, 1) := by decide +kernel
theorem dX1_passDay_13 : decode cX1_passDay 13 = .ok (.istore_n 1, 1) := by decide +kernel
theorem dX1_passDay_14 : decode cX1_passDay 14 = .ok (.iconst 0, 1) := by decide +kernel
theorem dX1_passDay_15 : decode cX1_passDay 15 = .ok (.istore_n 2, 1) := by decide +kernel
theorem dX1_passDay_16 : decode cX1_passDay 16 = .ok (.iload_n 2, 1) := by decide +kernel
theorem dX1_passDay_17 : decode cX1_passDay 17 = .ok (.bipush 8, 2) := by decide +kernel
theorem dX1_passDay_19 : decode cX1_passDay 19 = .ok (.if_icmp .ge 87, 3) := by decide +kernel
theorem dX1_passDay_22 : decode cX1_passDay 22 = .ok (.aload_n 0, 1) := by decide +kernel
theorem dX1_passDay_23 : decode cX1_passDay 23 = .ok (.iload_n 2, 1) := by decide +kernel
theorem dX1_passDay_24 : decode cX1_passDay 24 = .ok (.aload_n 0, 1) := by decide +kernel
theorem dX1_passDay_25 : decode cX1_passDay 25 = .ok (.iload_n 2, 1) := by decide +kernel
theorem dX1_passDay_26 : decode cX1_passDay 26 = .ok (.invokevirtual 73, 3) := by decide +kernel
theorem dX1_passDay_29 : decode cX1_passDay 29 = .ok (.aload_n 0, 1) := by decide +kernel
theorem dX1_passDay_30 : decode cX1_passDay 30 = .ok (.getfield 9, 3) := by decide +kernel
theorem dX1_passDay_33 : decode cX1_passDay 33 = .ok (.invokevirtual 77, 3) := by decide +kernel
theorem dX1_passDay_36 : decode cX1_passDay 36 = .ok (.iconst 0, 1) := by decide +kernel
theorem dX1_passDay_37 : decode cX1_passDay 37 = .ok (.istore_n 3, 1) := by decide +kernel
theorem dX1_passDay_38 : decode cX1_passDay 38 = .ok (.iload_n 3, 1) := by decide +kernel
theorem dX1_passDay_39 : decode cX1_passDay 39 = .ok (.aload_n 0, 1) := by decide +kernel
theorem dX1_passDay_40 : decode cX1_passDay 40 = .ok (.getfield 18, 3) := by decide +kernel
theorem dX1_passDay_43 : decode cX1_passDay 43 = .ok (.if_icmp .ge 57, 3) := by decide +kernel
theorem dX1_passDay_46 : decode cX1_passDay 46 = .ok (.aload_n 0, 1) := by decide +kernel
theorem dX1_passDay_47 : decode cX1_passDay 47 = .ok (.getfield 40, 3) := by decide +kernel
theorem dX1_passDay_50 : decode cX1_passDay 50 = .ok (.iload_n 3, 1) := by decide +kernel
theorem dX1_passDay_51 : decode cX1_passDay 51 = .ok (.dup2, 1) := by decide +kernel
theorem dX1_passDay_52 : decode cX1_passDay 52 = .ok (.iaload, 1) := by decide +kernel
theorem dX1_passDay_53 : decode cX1_passDay 53 = .ok (.aload_n 0, 1) := by decide +kernel
theorem dX1_passDay_54 : decode cX1_passDay 54 = .ok (.getfield 61, 3) := by decide +kernel
theorem dX1_passDay_57 : decode cX1_passDay 57 = .ok (.iload_n 3, 1) := by decide +kernel
theorem dX1_passDay_58 : decode cX1_passDay 58 = .ok (.iaload, 1) := by decide +kernel
theorem dX1_passDay_59 : decode cX1_passDay 59 = .ok (.iadd, 1) := by decide +kernel
theorem dX1_passDay_60 : decode cX1_passDay 60 = .ok (.iastore, 1) := by decide +kernel
theorem dX1_passDay_61 : decode cX1_passDay 61 = .ok (.aload_n 0, 1) := by decide +kernel
theorem dX1_passDay_62 : decode cX1_passDay 62 = .ok (.getfield 43, 3) := by decide +kernel
theorem dX1_passDay_65 : decode cX1_passDay 65 = .ok (.iload_n 3, 1) := by decide +kernel
theorem dX1_passDay_66 : decode cX1_passDay 66 = .ok (.dup2, 1) := by decide +kernel
theorem dX1_passDay_67 : decode cX1_passDay 67 = .ok (.iaload, 1) := by decide +kernel
theorem dX1_passDay_68 : decode cX1_passDay 68 = .ok (.aload_n 0, 1) := by decide +kernel
theorem dX1_passDay_69 : decode cX1_passDay 69 = .ok (.getfield 30, 3) := by decide +kernel
theorem dX1_passDay_72 : decode cX1_passDay 72 = .ok (.iload_n 3, 1) := by decide +kernel
theorem dX1_passDay_73 : decode cX1_passDay 73 = .ok (.iaload, 1) := by decide +kernel
theorem dX1_passDay_74 : decode cX1_passDay 74 = .ok (.aload_n 0, 1) := by decide +kernel
theorem dX1_passDay_75 : decode cX1_passDay 75 = .ok (.getfield 61, 3) := by decide +kernel
theorem dX1_passDay_78 : decode cX1_passDay 78 = .ok (.iload_n 3, 1) := by decide +kernel
theorem dX1_passDay_79 : decode cX1_passDay 79 = .ok (.iaload, 1) := by decide +kernel
theorem dX1_passDay_80 : decode cX1_passDay 80 = .ok (.invokestatic 81, 3) := by decide +kernel
theorem dX1_passDay_83 : decode cX1_passDay 83 = .ok (.iadd, 1) := by decide +kernel
theorem dX1_passDay_84 : decode cX1_passDay 84 = .ok (.iastore, 1) := by decide +kernel
theorem dX1_passDay_85 : decode cX1_passDay 85 = .ok (.iload_n 1, 1) := by decide +kernel
theorem dX1_passDay_86 : decode cX1_passDay 86 = .ok (.aload_n 0, 1) := by decide +kernel
theorem dX1_passDay_87 : decode cX1_passDay 87 = .ok (.getfield 61, 3) := by decide +kernel
theorem dX1_passDay_90 : decode cX1_passDay 90 = .ok (.iload_n 3, 1) := by decide +kernel
theorem dX1_passDay_91 : decode cX1_passDay 91 = .ok (.iaload, 1) := by decide +kernel
theorem dX1_passDay_92 : decode cX1_passDay 92 = .ok (.iadd, 1) := by decide +kernel
theorem dX1_passDay_93 : decode cX1_passDay 93 = .ok (.istore_n 1, 1) := by decide +kernel
theorem dX1_passDay_94 : decode cX1_passDay 94 = .ok (.iinc 3 1, 3) := by decide +kernel
theorem dX1_passDay_97 : decode cX1_passDay 97 = .ok (.goto (-59), 3) := by decide +kernel
theorem dX1_passDay_100 : decode cX1_passDay 100 = .ok (.iinc 2 1, 3) := by decide +kernel
theorem dX1_passDay_103 : decode cX1_passDay 103 = .ok (.goto (-87), 3) := by decide +kernel
theorem dX1_passDay_106 : decode cX1_passDay 106 = .ok (.aload_n 0, 1) := by decide +kernel
theorem dX1_passDay_107 : decode cX1_passDay 107 = .ok (.dup, 1) := by decide +kernel
theorem dX1_passDay_108 : decode cX1_passDay 108 = .ok (.getfield 15, 3) := by decide +kernel
theorem dX1_passDay_111 : decode cX1_passDay 111 = .ok (.iconst 1, 1) := by decide +kernel
theorem dX1_passDay_112 : decode cX1_passDay 112 = .ok (.iadd, 1) := by decide +kernel
theorem dX1_passDay_113 : decode cX1_passDay 113 = .ok (.putfield 15, 3) := by decide +kernel
theorem dX1_passDay_116 : decode cX1_passDay 116 = .ok (.iload_n 1, 1) := by decide +kernel
theorem dX1_passDay_117 : decode cX1_passDay 117 = .ok (.ireturn, 1) := by decide +kernel
theorem dX1_isOpen_0 : decode cX1_isOpen 0 = .ok (.aload_n 0, 1) := by decide +kernel
theorem dX1_isOpen_1 : decode cX1_isOpen 1 = .ok (.getfield 37, 3) := by decide +kernel
theorem dX1_isOpen_4 : decode cX1_isOpen 4 = .ok (.iload_n 1, 1) := by decide +kernel
theorem dX1_isOpen_5 : decode cX1_isOpen 5 = .ok (.iaload, 1) := by decide +kernel
theorem dX1_isOpen_6 : decode cX1_isOpen 6 = .ok (.iload_n 2, 1) := by decide +kernel
theorem dX1_isOpen_7 : decode cX1_isOpen 7 = .ok (.ishr, 1) := by decide +kernel
theorem dX1_isOpen_8 : decode cX1_isOpen 8 = .ok (.iconst 1, 1) := by decide +kernel
theorem dX1_isOpen_9 : decode cX1_isOpen 9 = .ok (.iand, 1) := by decide +kernel
theorem dX1_isOpen_10 : decode cX1_isOpen 10 = .ok (.iconst 1, 1) := by decide +kernel
theorem dX1_isOpen_11 : decode cX1_isOpen 11 = .ok (.if_icmp .ne 7, 3) := by decide +kernel
theorem dX1_isOpen_14 : decode cX1_isOpen 14 = .ok (.iconst 1, 1) := by decide +kernel
theorem dX1_isOpen_15 : decode cX1_isOpen 15 = .ok (.goto 4, 3) := by decide +kernel
theorem dX1_isOpen_18 : decode cX1_isOpen 18 = .ok (.iconst 0, 1) := by decide +kernel
theorem dX1_isOpen_19 : decode cX1_isOpen 19 = .ok (.ireturn, 1) := by decide +kernel
theorem dX1_openIn_0 : decode cX1_openIn 0 = .ok (.iconst 0, 1) := by decide +kernel
theorem dX1_openIn_1 : decode cX1_openIn 1 = .ok (.istore_n 2, 1) := by decide +kernel
theorem dX1_openIn_2 : decode cX1_openIn 2 = .ok (.iconst 0, 1) := by decide +kernel
theorem dX1_openIn_3 : decode cX1_openIn 3 = .ok (.istore_n 3, 1) := by decide +kernel
theorem dX1_openIn_4 : decode cX1_openIn 4 = .ok (.iload_n 3, 1) := by decide +kernel
theorem dX1_openIn_5 : decode cX1_openIn 5 = .ok (.aload_n 0, 1) := by decide +kernel
theorem dX1_openIn_6 : decode cX1_openIn 6 = .ok (.getfield 18, 3) := by decide +kernel
theorem dX1_openIn_9 : decode cX1_openIn 9 = .ok (.if_icmp .ge 24, 3) := by decide +kernel
theorem dX1_openIn_12 : decode cX1_openIn 12 = .ok (.aload_n 0, 1) := by decide +kernel
theorem dX1_openIn_13 : decode cX1_openIn 13 = .ok (.iload_n 3, 1) := by decide +kernel
theorem dX1_openIn_14 : decode cX1_openIn 14 = .ok (.iload_n 1, 1) := by decide +kernel
theorem dX1_openIn_15 : decode cX1_openIn 15 = .ok (.invokevirtual 86, 3) := by decide +kernel
theorem dX1_openIn_18 : decode cX1_openIn 18 = .ok (.ifCond .eq 9, 3) := by decide +kernel
theorem dX1_openIn_21 : decode cX1_openIn 21 = .ok (.iload_n 2, 1) := by decide +kernel
theorem dX1_openIn_22 : decode cX1_openIn 22 = .ok (.iconst 1, 1) := by decide +kernel
theorem dX1_openIn_23 : decode cX1_openIn 23 = .ok (.iload_n 3, 1) := by decide +kernel
theorem dX1_openIn_24 : decode cX1_openIn 24 = .ok (.ishl, 1) := by decide +kernel
theorem dX1_openIn_25 : decode cX1_openIn 25 = .ok (.ior, 1) := by decide +kernel
theorem dX1_openIn_26 : decode cX1_openIn 26 = .ok (.istore_n 2, 1) := by decide +kernel
theorem dX1_openIn_27 : decode cX1_openIn 27 = .ok (.iinc 3 1, 3) := by decide +kernel
theorem dX1_openIn_30 : decode cX1_openIn 30 = .ok (.goto (-26), 3) := by decide +kernel
theorem dX1_openIn_33 : decode cX1_openIn 33 = .ok (.iload_n 2, 1) := by decide +kernel
theorem dX1_openIn_34 : decode cX1_openIn 34 = .ok (.ireturn, 1) := by decide +kernel
theorem dX1_runHour_0 : decode cX1_runHour 0 = .ok (.aload_n 0, 1) := by decide +kernel
theorem dX1_runHour_1 : decode cX1_runHour 1 = .ok (.iload_n 3, 1) := by decide +kernel
theorem dX1_runHour_2 : decode cX1_runHour 2 = .ok (.putfield 64, 3) := by decide +kernel
theorem dX1_runHour_5 : decode cX1_runHour 5 = .ok (.iconst 0, 1) := by decide +kernel
theorem dX1_runHour_6 : decode cX1_runHour 6 = .ok (.istore 4, 2) := by decide +kernel
theorem dX1_runHour_8 : decode cX1_runHour 8 = .ok (.iload 4, 2) := by decide +kernel
theorem dX1_runHour_10 : decode cX1_runHour 10 = .ok (.aload_n 0, 1) := by decide +kernel
theorem dX1_runHour_11 : decode cX1_runHour 11 = .ok (.getfield 18, 3) := by decide +kernel
theorem dX1_runHour_14 : decode cX1_runHour 14 = .ok (.if_icmp .ge 79, 3) := by decide +kernel
theorem dX1_runHour_17 : decode cX1_runHour 17 = .ok (.aload_n 0, 1) := by decide +kernel
theorem dX1_runHour_18 : decode cX1_runHour 18 = .ok (.getfield 58, 3) := by decide +kernel
theorem dX1_runHour_21 : decode cX1_runHour 21 = .ok (.iload 4, 2) := by decide +kernel
theorem dX1_runHour_23 : decode cX1_runHour 23 = .ok (.aload_n 0, 1) := by decide +kernel
theorem dX1_runHour_24 : decode cX1_runHour 24 = .ok (.getfield 64, 3) := by decide +kernel
theorem dX1_runHour_27 : decode cX1_runHour 27 = .ok (.iastore, 1) := by decide +kernel
theorem dX1_runHour_28 : decode cX1_runHour 28 = .ok (.aload_n 0, 1) := by decide +kernel
theorem dX1_runHour_29 : decode cX1_runHour 29 = .ok (.getfield 61, 3) := by decide +kernel
theorem dX1_runHour_32 : decode cX1_runHour 32 = .ok (.iload 4, 2) := by decide +kernel
theorem dX1_runHour_34 : decode cX1_runHour 34 = .ok (.iload_n 2, 1) := by decide +kernel
theorem dX1_runHour_35 : decode cX1_runHour 35 = .ok (.iload 4, 2) := by decide +kernel
theorem dX1_runHour_37 : decode cX1_runHour 37 = .ok (.ishr, 1) := by decide +kernel
theorem dX1_runHour_38 : decode cX1_runHour 38 = .ok (.iconst 1, 1) := by decide +kernel
theorem dX1_runHour_39 : decode cX1_runHour 39 = .ok (.iand, 1) := by decide +kernel
theorem dX1_runHour_40 : decode cX1_runHour 40 = .ok (.iconst 1, 1) := by decide +kernel
theorem dX1_runHour_41 : decode cX1_runHour 41 = .ok (.if_icmp .ne 28, 3) := by decide +kernel
theorem dX1_runHour_44 : decode cX1_runHour 44 = .ok (.aload_n 0, 1) := by decide +kernel
theorem dX1_runHour_45 : decode cX1_runHour 45 = .ok (.getfield 30, 3) := by decide +kernel
theorem dX1_runHour_48 : decode cX1_runHour 48 = .ok (.iload 4, 2) := by decide +kernel
theorem dX1_runHour_50 : decode cX1_runHour 50 = .ok (.iaload, 1) := by decide +kernel
theorem dX1_runHour_51 : decode cX1_runHour 51 = .ok (.aload_n 0, 1) := by decide +kernel
theorem dX1_runHour_52 : decode cX1_runHour 52 = .ok (.getfield 34, 3) := by decide +kernel
theorem dX1_runHour_55 : decode cX1_runHour 55 = .ok (.iload 4, 2) := by decide +kernel
theorem dX1_runHour_57 : decode cX1_runHour 57 = .ok (.iaload, 1) := by decide +kernel
theorem dX1_runHour_58 : decode cX1_runHour 58 = .ok (.iload_n 1, 1) := by decide +kernel
theorem dX1_runHour_59 : decode cX1_runHour 59 = .ok (.aload_n 0, 1) := by decide +kernel
theorem dX1_runHour_60 : decode cX1_runHour 60 = .ok (.getfield 64, 3) := by decide +kernel
theorem dX1_runHour_63 : decode cX1_runHour 63 = .ok (.invokestatic 90, 3) := by decide +kernel
theorem dX1_runHour_66 : decode cX1_runHour 66 = .ok (.goto 4, 3) := by decide +kernel
theorem dX1_runHour_69 : decode cX1_runHour 69 = .ok (.iconst 0, 1) := by decide +kernel
theorem dX1_runHour_70 : decode cX1_runHour 70 = .ok (.iastore, 1) := by decide +kernel
theorem dX1_runHour_71 : decode cX1_runHour 71 = .ok (.aload_n 0, 1) := by decide +kernel
theorem dX1_runHour_72 : decode cX1_runHour 72 = .ok (.dup, 1) := by decide +kernel
theorem dX1_runHour_73 : decode cX1_runHour 73 = .ok (.getfield 64, 3) := by decide +kernel
theorem dX1_runHour_76 : decode cX1_runHour 76 = .ok (.aload_n 0, 1) := by decide +kernel
theorem dX1_runHour_77 : decode cX1_runHour 77 = .ok (.getfield 61, 3) := by decide +kernel
theorem dX1_runHour_80 : decode cX1_runHour 80 = .ok (.iload 4, 2) := by decide +kernel
theorem dX1_runHour_82 : decode cX1_runHour 82 = .ok (.iaload, 1) := by decide +kernel
theorem dX1_runHour_83 : decode cX1_runHour 83 = .ok (.isub, 1) := by decide +kernel
theorem dX1_runHour_84 : decode cX1_runHour 84 = .ok (.putfield 64, 3) := by decide +kernel
theorem dX1_runHour_87 : decode cX1_runHour 87 = .ok (.iinc 4 1, 3) := by decide +kernel
theorem dX1_runHour_90 : decode cX1_runHour 90 = .ok (.goto (-82), 3) := by decide +kernel
theorem dX1_runHour_93 : decode cX1_runHour 93 = .ok (.return_, 1) := by decide +kernel
theorem dX1_getsAt_0 : decode cX1_getsAt 0 = .ok (.aload_n 0, 1) := by decide +kernel
theorem dX1_getsAt_1 : decode cX1_getsAt 1 = .ok (.iload_n 2, 1) := by decide +kernel
theorem dX1_getsAt_2 : decode cX1_getsAt 2 = .ok (.aload_n 0, 1) := by decide +kernel
theorem dX1_getsAt_3 : decode cX1_getsAt 3 = .ok (.iload_n 2, 1) := by decide +kernel
theorem dX1_getsAt_4 : decode cX1_getsAt 4 = .ok (.invokevirtual 73, 3) := by decide +kernel
theorem dX1_getsAt_7 : decode cX1_getsAt 7 = .ok (.iload_n 3, 1) := by decide +kernel
theorem dX1_getsAt_8 : decode cX1_getsAt 8 = .ok (.invokevirtual 77, 3) := by decide +kernel
theorem dX1_getsAt_11 : decode cX1_getsAt 11 = .ok (.aload_n 0, 1) := by decide +kernel
theorem dX1_getsAt_12 : decode cX1_getsAt 12 = .ok (.getfield 61, 3) := by decide +kernel
theorem dX1_getsAt_15 : decode cX1_getsAt 15 = .ok (.iload_n 1, 1) := by decide +kernel
theorem dX1_getsAt_16 : decode cX1_getsAt 16 = .ok (.iaload, 1) := by decide +kernel
theorem dX1_getsAt_17 : decode cX1_getsAt 17 = .ok (.ireturn, 1) := by decide +kernel
theorem dX1_dailyGets_0 : decode cX1_dailyGets 0 = .ok (.iconst 0, 1) := by decide +kernel
theorem dX1_dailyGets_1 : decode cX1_dailyGets 1 = .ok (.istore_n 3, 1) := by decide +kernel
theorem dX1_dailyGets_2 : decode cX1_dailyGets 2 = .ok (.iconst 0, 1) := by decide +kernel
theorem dX1_dailyGets_3 : decode cX1_dailyGets 3 = .ok (.istore 4, 2) := by decide +kernel
theorem dX1_dailyGets_5 : decode cX1_dailyGets 5 = .ok (.iload 4, 2) := by decide +kernel
theorem dX1_dailyGets_7 : decode cX1_dailyGets 7 = .ok (.bipush 8, 2) := by decide +kernel
theorem dX1_dailyGets_9 : decode cX1_dailyGets 9 = .ok (.if_icmp .ge 36, 3) := by decide +kernel
theorem dX1_dailyGets_12 : decode cX1_dailyGets 12 = .ok (.aload_n 0, 1) := by decide +kernel
theorem dX1_dailyGets_13 : decode cX1_dailyGets 13 = .ok (.iload 4, 2) := by decide +kernel
theorem dX1_dailyGets_15 : decode cX1_dailyGets 15 = .ok (.aload_n 0, 1) := by decide +kernel
theorem dX1_dailyGets_16 : decode cX1_dailyGets 16 = .ok (.iload 4, 2) := by decide +kernel
theorem dX1_dailyGets_18 : decode cX1_dailyGets 18 = .ok (.invokevirtual 73, 3) := by decide +kernel
theorem dX1_dailyGets_21 : decode cX1_dailyGets 21 = .ok (.iload_n 2, 1) := by decide +kernel
theorem dX1_dailyGets_22 : decode cX1_dailyGets 22 = .ok (.iand, 1) := by decide +kernel
theorem dX1_dailyGets_23 : decode cX1_dailyGets 23 = .ok (.aload_n 0, 1) := by decide +kernel
theorem dX1_dailyGets_24 : decode cX1_dailyGets 24 = .ok (.getfield 9, 3) := by decide +kernel
theorem dX1_dailyGets_27 : decode cX1_dailyGets 27 = .ok (.invokevirtual 77, 3) := by decide +kernel
theorem dX1_dailyGets_30 : decode cX1_dailyGets 30 = .ok (.iload_n 3, 1) := by decide +kernel
theorem dX1_dailyGets_31 : decode cX1_dailyGets 31 = .ok (.aload_n 0, 1) := by decide +kernel
theorem dX1_dailyGets_32 : decode cX1_dailyGets 32 = .ok (.getfield 61, 3) := by decide +kernel
theorem dX1_dailyGets_35 : decode cX1_dailyGets 35 = .ok (.iload_n 1, 1) := by decide +kernel
theorem dX1_dailyGets_36 : decode cX1_dailyGets 36 = .ok (.iaload, 1) := by decide +kernel
theorem dX1_dailyGets_37 : decode cX1_dailyGets 37 = .ok (.iadd, 1) := by decide +kernel
theorem dX1_dailyGets_38 : decode cX1_dailyGets 38 = .ok (.istore_n 3, 1) := by decide +kernel
theorem dX1_dailyGets_39 : decode cX1_dailyGets 39 = .ok (.iinc 4 1, 3) := by decide +kernel
theorem dX1_dailyGets_42 : decode cX1_dailyGets 42 = .ok (.goto (-37), 3) := by decide +kernel
theorem dX1_dailyGets_45 : decode cX1_dailyGets 45 = .ok (.iload_n 3, 1) := by decide +kernel
theorem dX1_dailyGets_46 : decode cX1_dailyGets 46 = .ok (.ireturn, 1) := by decide +kernel
theorem dX1_dailyDue_0 : decode cX1_dailyDue 0 = .ok (.iconst 0, 1) := by decide +kernel
theorem dX1_dailyDue_1 : decode cX1_dailyDue 1 = .ok (.istore_n 2, 1) := by decide +kernel
theorem dX1_dailyDue_2 : decode cX1_dailyDue 2 = .ok (.iconst 0, 1) := by decide +kernel
theorem dX1_dailyDue_3 : decode cX1_dailyDue 3 = .ok (.istore_n 3, 1) := by decide +kernel
theorem dX1_dailyDue_4 : decode cX1_dailyDue 4 = .ok (.iload_n 3, 1) := by decide +kernel
theorem dX1_dailyDue_5 : decode cX1_dailyDue 5 = .ok (.bipush 8, 2) := by decide +kernel
theorem dX1_dailyDue_7 : decode cX1_dailyDue 7 = .ok (.if_icmp .ge 31, 3) := by decide +kernel
theorem dX1_dailyDue_10 : decode cX1_dailyDue 10 = .ok (.iload_n 2, 1) := by decide +kernel
theorem dX1_dailyDue_11 : decode cX1_dailyDue 11 = .ok (.aload_n 0, 1) := by decide +kernel
theorem dX1_dailyDue_12 : decode cX1_dailyDue 12 = .ok (.getfield 30, 3) := by decide +kernel
theorem dX1_dailyDue_15 : decode cX1_dailyDue 15 = .ok (.iload_n 1, 1) := by decide +kernel
theorem dX1_dailyDue_16 : decode cX1_dailyDue 16 = .ok (.iaload, 1) := by decide +kernel
theorem dX1_dailyDue_17 : decode cX1_dailyDue 17 = .ok (.aload_n 0, 1) := by decide +kernel
theorem dX1_dailyDue_18 : decode cX1_dailyDue 18 = .ok (.iload_n 1, 1) := by decide +kernel
theorem dX1_dailyDue_19 : decode cX1_dailyDue 19 = .ok (.iload_n 3, 1) := by decide +kernel
theorem dX1_dailyDue_20 : decode cX1_dailyDue 20 = .ok (.aload_n 0, 1) := by decide +kernel
theorem dX1_dailyDue_21 : decode cX1_dailyDue 21 = .ok (.getfield 9, 3) := by decide +kernel
theorem dX1_dailyDue_24 : decode cX1_dailyDue 24 = .ok (.invokevirtual 93, 3) := by decide +kernel
theorem dX1_dailyDue_27 : decode cX1_dailyDue 27 = .ok (.invokestatic 81, 3) := by decide +kernel
theorem dX1_dailyDue_30 : decode cX1_dailyDue 30 = .ok (.iadd, 1) := by decide +kernel
theorem dX1_dailyDue_31 : decode cX1_dailyDue 31 = .ok (.istore_n 2, 1) := by decide +kernel
theorem dX1_dailyDue_32 : decode cX1_dailyDue 32 = .ok (.iinc 3 1, 3) := by decide +kernel
theorem dX1_dailyDue_35 : decode cX1_dailyDue 35 = .ok (.goto (-31), 3) := by decide +kernel
theorem dX1_dailyDue_38 : decode cX1_dailyDue 38 = .ok (.iload_n 2, 1) := by decide +kernel
theorem dX1_dailyDue_39 : decode cX1_dailyDue 39 = .ok (.ireturn, 1) := by decide +kernel
theorem dX1_dailyOfAll_0 : decode cX1_dailyOfAll 0 = .ok (.iconst 0, 1) := by decide +kernel
theorem dX1_dailyOfAll_1 : decode cX1_dailyOfAll 1 = .ok (.istore_n 2, 1) := by decide +kernel
theorem dX1_dailyOfAll_2 : decode cX1_dailyOfAll 2 = .ok (.iconst 0, 1) := by decide +kernel
theorem dX1_dailyOfAll_3 : decode cX1_dailyOfAll 3 = .ok (.istore_n 3, 1) := by decide +kernel
theorem dX1_dailyOfAll_4 : decode cX1_dailyOfAll 4 = .ok (.iload_n 3, 1) := by decide +kernel
theorem dX1_dailyOfAll_5 : decode cX1_dailyOfAll 5 = .ok (.bipush 8, 2) := by decide +kernel
theorem dX1_dailyOfAll_7 : decode cX1_dailyOfAll 7 = .ok (.if_icmp .ge 29, 3) := by decide +kernel
theorem dX1_dailyOfAll_10 : decode cX1_dailyOfAll 10 = .ok (.aload_n 0, 1) := by decide +kernel
theorem dX1_dailyOfAll_11 : decode cX1_dailyOfAll 11 = .ok (.iload_n 3, 1) := by decide +kernel
theorem dX1_dailyOfAll_12 : decode cX1_dailyOfAll 12 = .ok (.aload_n 0, 1) := by decide +kernel
theorem dX1_dailyOfAll_13 : decode cX1_dailyOfAll 13 = .ok (.iload_n 3, 1) := by decide +kernel
theorem dX1_dailyOfAll_14 : decode cX1_dailyOfAll 14 = .ok (.invokevirtual 73, 3) := by decide +kernel
theorem dX1_dailyOfAll_17 : decode cX1_dailyOfAll 17 = .ok (.iload_n 1, 1) := by decide +kernel
theorem dX1_dailyOfAll_18 : decode cX1_dailyOfAll 18 = .ok (.invokevirtual 77, 3) := by decide +kernel
theorem dX1_dailyOfAll_21 : decode cX1_dailyOfAll 21 = .ok (.iload_n 2, 1) := by decide +kernel
theorem dX1_dailyOfAll_22 : decode cX1_dailyOfAll 22 = .ok (.iload_n 1, 1) := by decide +kernel
theorem dX1_dailyOfAll_23 : decode cX1_dailyOfAll 23 = .ok (.aload_n 0, 1) := by decide +kernel
theorem dX1_dailyOfAll_24 : decode cX1_dailyOfAll 24 = .ok (.getfield 64, 3) := by decide +kernel
theorem dX1_dailyOfAll_27 : decode cX1_dailyOfAll 27 = .ok (.isub, 1) := by decide +kernel
theorem dX1_dailyOfAll_28 : decode cX1_dailyOfAll 28 = .ok (.iadd, 1) := by decide +kernel
theorem dX1_dailyOfAll_29 : decode cX1_dailyOfAll 29 = .ok (.istore_n 2, 1) := by decide +kernel
theorem dX1_dailyOfAll_30 : decode cX1_dailyOfAll 30 = .ok (.iinc 3 1, 3) := by decide +kernel
theorem dX1_dailyOfAll_33 : decode cX1_dailyOfAll 33 = .ok (.goto (-29), 3) := by decide +kernel
theorem dX1_dailyOfAll_36 : decode cX1_dailyOfAll 36 = .ok (.iload_n 2, 1) := by decide +kernel
theorem dX1_dailyOfAll_37 : decode cX1_dailyOfAll 37 = .ok (.ireturn, 1) := by decide +kernel
theorem dX1_swapHours_0 : decode cX1_swapHours 0 = .ok (.aload_n 0, 1) := by decide +kernel
theorem dX1_swapHours_1 : decode cX1_swapHours 1 = .ok (.getfield 37, 3) := by decide +kernel
theorem dX1_swapHours_4 : decode cX1_swapHours 4 = .ok (.iload_n 1, 1) := by decide +kernel
theorem dX1_swapHours_5 : decode cX1_swapHours 5 = .ok (.iaload, 1) := by decide +kernel
theorem dX1_swapHours_6 : decode cX1_swapHours 6 = .ok (.istore_n 3, 1) := by decide +kernel
theorem dX1_swapHours_7 : decode cX1_swapHours 7 = .ok (.aload_n 0, 1) := by decide +kernel
theorem dX1_swapHours_8 : decode cX1_swapHours 8 = .ok (.getfield 37, 3) := by decide +kernel
theorem dX1_swapHours_11 : decode cX1_swapHours 11 = .ok (.iload_n 1, 1) := by decide +kernel
theorem dX1_swapHours_12 : decode cX1_swapHours 12 = .ok (.aload_n 0, 1) := by decide +kernel
theorem dX1_swapHours_13 : decode cX1_swapHours 13 = .ok (.getfield 37, 3) := by decide +kernel
theorem dX1_swapHours_16 : decode cX1_swapHours 16 = .ok (.iload_n 2, 1) := by decide +kernel
theorem dX1_swapHours_17 : decode cX1_swapHours 17 = .ok (.iaload, 1) := by decide +kernel
theorem dX1_swapHours_18 : decode cX1_swapHours 18 = .ok (.iastore, 1) := by decide +kernel
theorem dX1_swapHours_19 : decode cX1_swapHours 19 = .ok (.aload_n 0, 1) := by decide +kernel
theorem dX1_swapHours_20 : decode cX1_swapHours 20 = .ok (.getfield 37, 3) := by decide +kernel
theorem dX1_swapHours_23 : decode cX1_swapHours 23 = .ok (.iload_n 2, 1) := by decide +kernel
theorem dX1_swapHours_24 : decode cX1_swapHours 24 = .ok (.iload_n 3, 1) := by decide +kernel
theorem dX1_swapHours_25 : decode cX1_swapHours 25 = .ok (.iastore, 1) := by decide +kernel
theorem dX1_swapHours_26 : decode cX1_swapHours 26 = .ok (.return_, 1) := by decide +kernel
theorem dX1_sumOf_0 : decode cX1_sumOf 0 = .ok (.iconst 0, 1) := by decide +kernel
theorem dX1_sumOf_1 : decode cX1_sumOf 1 = .ok (.istore_n 2, 1) := by decide +kernel
theorem dX1_sumOf_2 : decode cX1_sumOf 2 = .ok (.iconst 0, 1) := by decide +kernel
theorem dX1_sumOf_3 : decode cX1_sumOf 3 = .ok (.istore_n 3, 1) := by decide +kernel
theorem dX1_sumOf_4 : decode cX1_sumOf 4 = .ok (.iload_n 3, 1) := by decide +kernel
theorem dX1_sumOf_5 : decode cX1_sumOf 5 = .ok (.aload_n 0, 1) := by decide +kernel
theorem dX1_sumOf_6 : decode cX1_sumOf 6 = .ok (.getfield 18, 3) := by decide +kernel
theorem dX1_sumOf_9 : decode cX1_sumOf 9 = .ok (.if_icmp .ge 21, 3) := by decide +kernel
theorem dX1_sumOf_12 : decode cX1_sumOf 12 = .ok (.iload_n 3, 1) := by decide +kernel
theorem dX1_sumOf_13 : decode cX1_sumOf 13 = .ok (.aload_n 1, 1) := by decide +kernel
theorem dX1_sumOf_14 : decode cX1_sumOf 14 = .ok (.arraylength, 1) := by decide +kernel
theorem dX1_sumOf_15 : decode cX1_sumOf 15 = .ok (.if_icmp .ge 15, 3) := by decide +kernel
theorem dX1_sumOf_18 : decode cX1_sumOf 18 = .ok (.iload_n 2, 1) := by decide +kernel
theorem dX1_sumOf_19 : decode cX1_sumOf 19 = .ok (.aload_n 1, 1) := by decide +kernel
theorem dX1_sumOf_20 : decode cX1_sumOf 20 = .ok (.iload_n 3, 1) := by decide +kernel
theorem dX1_sumOf_21 : decode cX1_sumOf 21 = .ok (.iaload, 1) := by decide +kernel
theorem dX1_sumOf_22 : decode cX1_sumOf 22 = .ok (.iadd, 1) := by decide +kernel
theorem dX1_sumOf_23 : decode cX1_sumOf 23 = .ok (.istore_n 2, 1) := by decide +kernel
theorem dX1_sumOf_24 : decode cX1_sumOf 24 = .ok (.iinc 3 1, 3) := by decide +kernel
theorem dX1_sumOf_27 : decode cX1_sumOf 27 = .ok (.goto (-23), 3) := by decide +kernel
theorem dX1_sumOf_30 : decode cX1_sumOf 30 = .ok (.iload_n 2, 1) := by decide +kernel
theorem dX1_sumOf_31 : decode cX1_sumOf 31 = .ok (.ireturn, 1) := by decide +kernel
theorem dX2_init_0 : decode cX2_init 0 = .ok (.aload_n 0, 1) := by decide +kernel
theorem dX2_init_1 : decode cX2_init 1 = .ok (.invokespecial 3, 3) := by decide +kernel
theorem dX2_init_4 : decode cX2_init 4 = .ok (.aload_n 0, 1) := by decide +kernel
theorem dX2_init_5 : decode cX2_init 5 = .ok (.new 9, 3) := by decide +kernel
theorem dX2_init_8 : decode cX2_init 8 = .ok (.dup, 1) := by decide +kernel
theorem dX2_init_9 : decode cX2_init 9 = .ok (.invokespecial 11, 3) := by decide +kernel
theorem dX2_init_12 : decode cX2_init 12 = .ok (.putfield 12, 3) := by decide +kernel
theorem dX2_init_15 : decode cX2_init 15 = .ok (.aload_n 0, 1) := by decide +kernel
theorem dX2_init_16 : decode cX2_init 16 = .ok (.iconst 0, 1) := by decide +kernel
theorem dX2_init_17 : decode cX2_init 17 = .ok (.putfield 18, 3) := by decide +kernel
theorem dX2_init_20 : decode cX2_init 20 = .ok (.aload_n 0, 1) := by decide +kernel
theorem dX2_init_21 : decode cX2_init 21 = .ok (.iconst 0, 1) := by decide +kernel
theorem dX2_init_22 : decode cX2_init 22 = .ok (.putfield 22, 3) := by decide +kernel
theorem dX2_init_25 : decode cX2_init 25 = .ok (.aload_n 0, 1) := by decide +kernel
theorem dX2_init_26 : decode cX2_init 26 = .ok (.sipush 150, 3) := by decide +kernel
theorem dX2_init_29 : decode cX2_init 29 = .ok (.newarray .byte, 2) := by decide +kernel
theorem dX2_init_31 : decode cX2_init 31 = .ok (.putfield 25, 3) := by decide +kernel
theorem dX2_init_34 : decode cX2_init 34 = .ok (.aload_n 0, 1) := by decide +kernel
theorem dX2_init_35 : decode cX2_init 35 = .ok (.iconst 0, 1) := by decide +kernel
theorem dX2_init_36 : decode cX2_init 36 = .ok (.putfield 29, 3) := by decide +kernel
theorem dX2_init_39 : decode cX2_init 39 = .ok (.aload_n 0, 1) := by decide +kernel
theorem dX2_init_40 : decode cX2_init 40 = .ok (.iconst 0, 1) := by decide +kernel
theorem dX2_init_41 : decode cX2_init 41 = .ok (.putfield 32, 3) := by decide +kernel
theorem dX2_init_44 : decode cX2_init 44 = .ok (.aload_n 0, 1) := by decide +kernel
theorem dX2_init_45 : decode cX2_init 45 = .ok (.iconst 0, 1) := by decide +kernel
theorem dX2_init_46 : decode cX2_init 46 = .ok (.putfield 35, 3) := by decide +kernel
theorem dX2_init_49 : decode cX2_init 49 = .ok (.return_, 1) := by decide +kernel
theorem dX2_add_0 : decode cX2_add 0 = .ok (.aload_n 0, 1) := by decide +kernel
theorem dX2_add_1 : decode cX2_add 1 = .ok (.getfield 22, 3) := by decide +kernel
theorem dX2_add_4 : decode cX2_add 4 = .ok (.sipush 150, 3) := by decide +kernel
theorem dX2_add_7 : decode cX2_add 7 = .ok (.if_icmp .lt 6, 3) := by decide +kernel
theorem dX2_add_10 : decode cX2_add 10 = .ok (.bipush (-4), 2) := by decide +kernel
theorem dX2_add_12 : decode cX2_add 12 = .ok (.ireturn, 1) := by decide +kernel
theorem dX2_add_13 : decode cX2_add 13 = .ok (.aload_n 0, 1) := by decide +kernel
theorem dX2_add_14 : decode cX2_add 14 = .ok (.getfield 25, 3) := by decide +kernel
theorem dX2_add_17 : decode cX2_add 17 = .ok (.aload_n 0, 1) := by decide +kernel
theorem dX2_add_18 : decode cX2_add 18 = .ok (.getfield 22, 3) := by decide +kernel
theorem dX2_add_21 : decode cX2_add 21 = .ok (.iload_n 1, 1) := by decide +kernel
theorem dX2_add_22 : decode cX2_add 22 = .ok (.i2b, 1) := by decide +kernel
theorem dX2_add_23 : decode cX2_add 23 = .ok (.bastore, 1) := by decide +kernel
theorem dX2_add_24 : decode cX2_add 24 = .ok (.aload_n 0, 1) := by decide +kernel
theorem dX2_add_25 : decode cX2_add 25 = .ok (.dup, 1) := by decide +kernel
theorem dX2_add_26 : decode cX2_add 26 = .ok (.getfield 22, 3) := by decide +kernel
theorem dX2_add_29 : decode cX2_add 29 = .ok (.iconst 1, 1) := by decide +kernel
theorem dX2_add_30 : decode cX2_add 30 = .ok (.iadd, 1) := by decide +kernel
theorem dX2_add_31 : decode cX2_add 31 = .ok (.putfield 22, 3) := by decide +kernel
theorem dX2_add_34 : decode cX2_add 34 = .ok (.aload_n 0, 1) := by decide +kernel
theorem dX2_add_35 : decode cX2_add 35 = .ok (.getfield 22, 3) := by decide +kernel
theorem dX2_add_38 : decode cX2_add 38 = .ok (.ireturn, 1) := by decide +kernel
theorem dX2_parse_0 : decode cX2_parse 0 = .ok (.aload_n 0, 1) := by decide +kernel
theorem dX2_parse_1 : decode cX2_parse 1 = .ok (.iconst 0, 1) := by decide +kernel
theorem dX2_parse_2 : decode cX2_parse 2 = .ok (.putfield 29, 3) := by decide +kernel
theorem dX2_parse_5 : decode cX2_parse 5 = .ok (.aload_n 0, 1) := by decide +kernel
theorem dX2_parse_6 : decode cX2_parse 6 = .ok (.getfield 12, 3) := by decide +kernel
theorem dX2_parse_9 : decode cX2_parse 9 = .ok (.bipush 30, 2) := by decide +kernel
theorem dX2_parse_11 : decode cX2_parse 11 = .ok (.invokevirtual 38, 3) := by decide +kernel
theorem dX2_parse_14 : decode cX2_parse 14 = .ok (.aload_n 0, 1) := by decide +kernel
theorem dX2_parse_15 : decode cX2_parse 15 = .ok (.invokevirtual 42, 3) := by decide +kernel
theorem dX2_parse_18 : decode cX2_parse 18 = .ok (.aload_n 0, 1) := by decide +kernel
theorem dX2_parse_19 : decode cX2_parse 19 = .ok (.invokevirtual 45, 3) := by decide +kernel
theorem dX2_parse_22 : decode cX2_parse 22 = .ok (.ifCond .ne 5, 3) := by decide +kernel
theorem dX2_parse_25 : decode cX2_parse 25 = .ok (.iconst (-1), 1) := by decide +kernel
theorem dX2_parse_26 : decode cX2_parse 26 = .ok (.ireturn, 1) := by decide +kernel
theorem dX2_parse_27 : decode cX2_parse 27 = .ok (.iconst 1, 1) := by decide +kernel
theorem dX2_parse_28 : decode cX2_parse 28 = .ok (.istore_n 1, 1) := by decide +kernel
theorem dX2_parse_29 : decode cX2_parse 29 = .ok (.iload_n 1, 1) := by decide +kernel
theorem dX2_parse_30 : decode cX2_parse 30 = .ok (.aload_n 0, 1) := by decide +kernel
theorem dX2_parse_31 : decode cX2_parse 31 = .ok (.getfield 22, 3) := by decide +kernel
theorem dX2_parse_34 : decode cX2_parse 34 = .ok (.if_icmp .gt 57, 3) := by decide +kernel
theorem dX2_parse_37 : decode cX2_parse 37 = .ok (.aload_n 0, 1) := by decide +kernel
theorem dX2_parse_38 : decode cX2_parse 38 = .ok (.getfield 32, 3) := by decide +kernel
theorem dX2_parse_41 : decode cX2_parse 41 = .ok (.ifCond .eq 50, 3) := by decide +kernel
theorem dX2_parse_44 : decode cX2_parse 44 = .ok (.aload_n 0, 1) := by decide +kernel
theorem dX2_parse_45 : decode cX2_parse 45 = .ok (.getfield 32, 3) := by decide +kernel
theorem dX2_parse_48 : decode cX2_parse 48 = .ok (.iconst 4, 1) := by decide +kernel
theorem dX2_parse_49 : decode cX2_parse 49 = .ok (.if_icmp .ne 10, 3) := by decide +kernel
theorem dX2_parse_52 : decode cX2_parse 52 = .ok (.aload_n 0, 1) := by decide +kernel
theorem dX2_parse_53 : decode cX2_parse 53 = .ok (.invokevirtual 49, 3) := by decide +kernel
theorem dX2_parse_56 : decode cX2_parse 56 = .ok (.goto 22, 3) := by decide +kernel
theorem dX2_parse_59 : decode cX2_parse 59 = .ok (.aload_n 0, 1) := by decide +kernel
theorem dX2_parse_60 : decode cX2_parse 60 = .ok (.getfield 32, 3) := by decide +kernel
theorem dX2_parse_63 : decode cX2_parse 63 = .ok (.iconst 5, 1) := by decide +kernel
theorem dX2_parse_64 : decode cX2_parse 64 = .ok (.if_icmp .ne 10, 3) := by decide +kernel
theorem dX2_parse_67 : decode cX2_parse 67 = .ok (.aload_n 0, 1) := by decide +kernel
theorem dX2_parse_68 : decode cX2_parse 68 = .ok (.invokevirtual 52, 3) := by decide +kernel
theorem dX2_parse_71 : decode cX2_parse 71 = .ok (.goto 7, 3) := by decide +kernel
theorem dX2_parse_74 : decode cX2_parse 74 = .ok (.aload_n 0, 1) := by decide +kernel
theorem dX2_parse_75 : decode cX2_parse 75 = .ok (.invokevirtual 55, 3) := by decide +kernel
theorem dX2_parse_78 : decode cX2_parse 78 = .ok (.istore_n 2, 1) := by decide +kernel
theorem dX2_parse_79 : decode cX2_parse 79 = .ok (.iload_n 2, 1) := by decide +kernel
theorem dX2_parse_80 : decode cX2_parse 80 = .ok (.ifCond .ne 5, 3) := by decide +kernel
theorem dX2_parse_83 : decode cX2_parse 83 = .ok (.iconst (-1), 1) := by decide +kernel
theorem dX2_parse_84 : decode cX2_parse 84 = .ok (.ireturn, 1) := by decide +kernel
theorem dX2_parse_85 : decode cX2_parse 85 = .ok (.iinc 1 1, 3) := by decide +kernel
theorem dX2_parse_88 : decode cX2_parse 88 = .ok (.goto (-59), 3) := by decide +kernel
theorem dX2_parse_91 : decode cX2_parse 91 = .ok (.iload_n 1, 1) := by decide +kernel
theorem dX2_parse_92 : decode cX2_parse 92 = .ok (.ireturn, 1) := by decide +kernel
theorem dX2_mainItem_0 : decode cX2_mainItem 0 = .ok (.aload_n 0, 1) := by decide +kernel
theorem dX2_mainItem_1 : decode cX2_mainItem 1 = .ok (.getfield 32, 3) := by decide +kernel
theorem dX2_mainItem_4 : decode cX2_mainItem 4 = .ok (.iconst 3, 1) := by decide +kernel
theorem dX2_mainItem_5 : decode cX2_mainItem 5 = .ok (.if_icmp .eq 5, 3) := by decide +kernel
theorem dX2_mainItem_8 : decode cX2_mainItem 8 = .ok (.iconst 0, 1) := by decide +kernel
theorem dX2_mainItem_9 : decode cX2_mainItem 9 = .ok (.ireturn, 1) := by decide +kernel
theorem dX2_mainItem_10 : decode cX2_mainItem 10 = .ok (.aload_n 0, 1) := by decide +kernel
theorem dX2_mainItem_11 : decode cX2_mainItem 11 = .ok (.invokevirtual 42, 3) := by decide +kernel
theorem dX2_mainItem_14 : decode cX2_mainItem 14 = .ok (.aload_n 0, 1) := by decide +kernel
theorem dX2_mainItem_15 : decode cX2_mainItem 15 = .ok (.iconst 0, 1) := by decide +kernel
theorem dX2_mainItem_16 : decode cX2_mainItem 16 = .ok (.bipush 60, 2) := by decide +kernel
theorem dX2_mainItem_18 : decode cX2_mainItem 18 = .ok (.invokevirtual 58, 3) := by decide +kernel
theorem dX2_mainItem_21 : decode cX2_mainItem 21 = .ok (.ifCond .ne 5, 3) := by decide +kernel
theorem dX2_mainItem_24 : decode cX2_mainItem 24 = .ok (.iconst 0, 1) := by decide +kernel
theorem dX2_mainItem_25 : decode cX2_mainItem 25 = .ok (.ireturn, 1) := by decide +kernel
theorem dX2_mainItem_26 : decode cX2_mainItem 26 = .ok (.aload_n 0, 1) := by decide +kernel
theorem dX2_mainItem_27 : decode cX2_mainItem 27 = .ok (.getfield 12, 3) := by decide +kernel
theorem dX2_mainItem_30 : decode cX2_mainItem 30 = .ok (.aload_n 0, 1) := by decide +kernel
theorem dX2_mainItem_31 : decode cX2_mainItem 31 = .ok (.getfield 35, 3) := by decide +kernel
theorem dX2_mainItem_34 : decode cX2_mainItem 34 = .ok (.putfield 62, 3) := by decide +kernel
theorem dX2_mainItem_37 : decode cX2_mainItem 37 = .ok (.aload_n 0, 1) := by decide +kernel
theorem dX2_mainItem_38 : decode cX2_mainItem 38 = .ok (.invokevirtual 42, 3) := by decide +kernel
theorem dX2_mainItem_41 : decode cX2_mainItem 41 = .ok (.aload_n 0, 1) := by decide +kernel
theorem dX2_mainItem_42 : decode cX2_mainItem 42 = .ok (.invokevirtual 65, 3) := by decide +kernel
theorem dX2_mainItem_45 : decode cX2_mainItem 45 = .ok (.ireturn, 1) := by decide +kernel
theorem dX2_wellItem_0 : decode cX2_wellItem 0 = .ok (.aload_n 0, 1) := by decide +kernel
theorem dX2_wellItem_1 : decode cX2_wellItem 1 = .ok (.getfield 32, 3) := by decide +kernel
theorem dX2_wellItem_4 : decode cX2_wellItem 4 = .ok (.iconst 4, 1) := by decide +kernel
theorem dX2_wellItem_5 : decode cX2_wellItem 5 = .ok (.if_icmp .ne 14, 3) := by decide +kernel
theorem dX2_wellItem_8 : decode cX2_wellItem 8 = .ok (.aload_n 0, 1) := by decide +kernel
theorem dX2_wellItem_9 : decode cX2_wellItem 9 = .ok (.getfield 12, 3) := by decide +kernel
theorem dX2_wellItem_12 : decode cX2_wellItem 12 = .ok (.getfield 68, 3) := by decide +kernel
theorem dX2_wellItem_15 : decode cX2_wellItem 15 = .ok (.iconst 5, 1) := by decide +kernel
theorem dX2_wellItem_16 : decode cX2_wellItem 16 = .ok (.if_icmp .lt 5, 3) := by decide +kernel
theorem dX2_wellItem_19 : decode cX2_wellItem 19 = .ok (.iconst 0, 1) := by decide +kernel
theorem dX2_wellItem_20 : decode cX2_wellItem 20 = .ok (.ireturn, 1) := by decide +kernel
theorem dX2_wellItem_21 : decode cX2_wellItem 21 = .ok (.aload_n 0, 1) := by decide +kernel
theorem dX2_wellItem_22 : decode cX2_wellItem 22 = .ok (.invokevirtual 42, 3) := by decide +kernel
theorem dX2_wellItem_25 : decode cX2_wellItem 25 = .ok (.aload_n 0, 1) := by decide +kernel
theorem dX2_wellItem_26 : decode cX2_wellItem 26 = .ok (.iconst 0, 1) := by decide +kernel
theorem dX2_wellItem_27 : decode cX2_wellItem 27 = .ok (.iconst 5, 1) := by decide +kernel
theorem dX2_wellItem_28 : decode cX2_wellItem 28 = .ok (.invokevirtual 58, 3) := by decide +kernel
theorem dX2_wellItem_31 : decode cX2_wellItem 31 = .ok (.ifCond .ne 5, 3) := by decide +kernel
theorem dX2_wellItem_34 : decode cX2_wellItem 34 = .ok (.iconst 0, 1) := by decide +kernel
theorem dX2_wellItem_35 : decode cX2_wellItem 35 = .ok (.ireturn, 1) := by decide +kernel
theorem dX2_wellItem_36 : decode cX2_wellItem 36 = .ok (.aload_n 0, 1) := by decide +kernel
theorem dX2_wellItem_37 : decode cX2_wellItem 37 = .ok (.getfield 35, 3) := by decide +kernel
theorem dX2_wellItem_40 : decode cX2_wellItem 40 = .ok (.istore_n 1, 1) := by decide +kernel
theorem dX2_wellItem_41 : decode cX2_wellItem 41 = .ok (.aload_n 0, 1) := by decide +kernel
theorem dX2_wellItem_42 : decode cX2_wellItem 42 = .ok (.invokevirtual 42, 3) := by decide +kernel
theorem dX2_wellItem_45 : decode cX2_wellItem 45 = .ok (.aload_n 0, 1) := by decide +kernel
theorem dX2_wellItem_46 : decode cX2_wellItem 46 = .ok (.iconst 1, 1) := by decide +kernel
theorem dX2_wellItem_47 : decode cX2_wellItem 47 = .ok (.bipush 20, 2) := by decide +kernel
theorem dX2_wellItem_49 : decode cX2_wellItem 49 = .ok (.invokevirtual 58, 3) := by decide +kernel
theorem dX2_wellItem_52 : decode cX2_wellItem 52 = .ok (.ifCond .ne 5, 3) := by decide +kernel
theorem dX2_wellItem_55 : decode cX2_wellItem 55 = .ok (.iconst 0, 1) := by decide +kernel
theorem dX2_wellItem_56 : decode cX2_wellItem 56 = .ok (.ireturn, 1) := by decide +kernel
theorem dX2_wellItem_57 : decode cX2_wellItem 57 = .ok (.aload_n 0, 1) := by decide +kernel
theorem dX2_wellItem_58 : decode cX2_wellItem 58 = .ok (.getfield 35, 3) := by decide +kernel
theorem dX2_wellItem_61 : decode cX2_wellItem 61 = .ok (.istore_n 2, 1) := by decide +kernel
theorem dX2_wellItem_62 : decode cX2_wellItem 62 = .ok (.aload_n 0, 1) := by decide +kernel
theorem dX2_wellItem_63 : decode cX2_wellItem 63 = .ok (.invokevirtual 42, 3) := by decide +kernel
theorem dX2_wellItem_66 : decode cX2_wellItem 66 = .ok (.aload_n 0, 1) := by decide +kernel
theorem dX2_wellItem_67 : decode cX2_wellItem 67 = .ok (.invokevirtual 71, 3) := by decide +kernel
theorem dX2_wellItem_70 : decode cX2_wellItem 70 = .ok (.istore_n 3, 1) := by decide +kernel
theorem dX2_wellItem_71 : decode cX2_wellItem 71 = .ok (.aload_n 0, 1) := by decide +kernel
theorem dX2_wellItem_72 : decode cX2_wellItem 72 = .ok (.invokevirtual 65, 3) := by decide +kernel
theorem dX2_wellItem_75 : decode cX2_wellItem 75 = .ok (.ifCond .ne 5, 3) := by decide +kernel
theorem dX2_wellItem_78 : decode cX2_wellItem 78 = .ok (.iconst 0, 1) := by decide +kernel
theorem dX2_wellItem_79 : decode cX2_wellItem 79 = .ok (.ireturn, 1) := by decide +kernel
theorem dX2_wellItem_80 : decode cX2_wellItem 80 = .ok (.aload_n 0, 1) := by decide +kernel
theorem dX2_wellItem_81 : decode cX2_wellItem 81 = .ok (.getfield 12, 3) := by decide +kernel
theorem dX2_wellItem_84 : decode cX2_wellItem 84 = .ok (.iload_n 1, 1) := by decide +kernel
theorem dX2_wellItem_85 : decode cX2_wellItem 85 = .ok (.iload_n 2, 1) := by decide +kernel
theorem dX2_wellItem_86 : decode cX2_wellItem 86 = .ok (.iload_n 3, 1) := by decide +kernel
theorem dX2_wellItem_87 : decode cX2_wellItem 87 = .ok (.invokevirtual 75, 3) := by decide +kernel
theorem dX2_wellItem_90 : decode cX2_wellItem 90 = .ok (.pop, 1) := by decide +kernel
theorem dX2_wellItem_91 : decode cX2_wellItem 91 = .ok (.iconst 1, 1) := by decide +kernel
theorem dX2_wellItem_92 : decode cX2_wellItem 92 = .ok (.ireturn, 1) := by decide +kernel
theorem dX2_turnItem_0 : decode cX2_turnItem 0 = .ok (.aload_n 0, 1) := by decide +kernel
theorem dX2_turnItem_1 : decode cX2_turnItem 1 = .ok (.getfield 32, 3) := by decide +kernel
theorem dX2_turnItem_4 : decode cX2_turnItem 4 = .ok (.iconst 5, 1) := by decide +kernel
theorem dX2_turnItem_5 : decode cX2_turnItem 5 = .ok (.if_icmp .eq 5, 3) := by decide +kernel
theorem dX2_turnItem_8 : decode cX2_turnItem 8 = .ok (.iconst 0, 1) := by decide +kernel
theorem dX2_turnItem_9 : decode cX2_turnItem 9 = .ok (.ireturn, 1) := by decide +kernel
theorem dX2_turnItem_10 : decode cX2_turnItem 10 = .ok (.aload_n 0, 1) := by decide +kernel
theorem dX2_turnItem_11 : decode cX2_turnItem 11 = .ok (.invokevirtual 42, 3) := by decide +kernel
theorem dX2_turnItem_14 : decode cX2_turnItem 14 = .ok (.aload_n 0, 1) := by decide +kernel
theorem dX2_turnItem_15 : decode cX2_turnItem 15 = .ok (.iconst 0, 1) := by decide +kernel
theorem dX2_turnItem_16 : decode cX2_turnItem 16 = .ok (.aload_n 0, 1) := by decide +kernel
theorem dX2_turnItem_17 : decode cX2_turnItem 17 = .ok (.getfield 12, 3) := by decide +kernel
theorem dX2_turnItem_20 : decode cX2_turnItem 20 = .ok (.getfield 68, 3) := by decide +kernel
theorem dX2_turnItem_23 : decode cX2_turnItem 23 = .ok (.iconst 1, 1) := by decide +kernel
theorem dX2_turnItem_24 : decode cX2_turnItem 24 = .ok (.isub, 1) := by decide +kernel
theorem dX2_turnItem_25 : decode cX2_turnItem 25 = .ok (.invokevirtual 58, 3) := by decide +kernel
theorem dX2_turnItem_28 : decode cX2_turnItem 28 = .ok (.ifCond .ne 5, 3) := by decide +kernel
theorem dX2_turnItem_31 : decode cX2_turnItem 31 = .ok (.iconst 0, 1) := by decide +kernel
theorem dX2_turnItem_32 : decode cX2_turnItem 32 = .ok (.ireturn, 1) := by decide +kernel
theorem dX2_turnItem_33 : decode cX2_turnItem 33 = .ok (.aload_n 0, 1) := by decide +kernel
theorem dX2_turnItem_34 : decode cX2_turnItem 34 = .ok (.getfield 35, 3) := by decide +kernel
theorem dX2_turnItem_37 : decode cX2_turnItem 37 = .ok (.istore_n 1, 1) := by decide +kernel
theorem dX2_turnItem_38 : decode cX2_turnItem 38 = .ok (.aload_n 0, 1) := by decide +kernel
theorem dX2_turnItem_39 : decode cX2_turnItem 39 = .ok (.invokevirtual 42, 3) := by decide +kernel
theorem dX2_turnItem_42 : decode cX2_turnItem 42 = .ok (.aload_n 0, 1) := by decide +kernel
theorem dX2_turnItem_43 : decode cX2_turnItem 43 = .ok (.invokevirtual 71, 3) := by decide +kernel
theorem dX2_turnItem_46 : decode cX2_turnItem 46 = .ok (.istore_n 2, 1) := by decide +kernel
theorem dX2_turnItem_47 : decode cX2_turnItem 47 = .ok (.aload_n 0, 1) := by decide +kernel
theorem dX2_turnItem_48 : decode cX2_turnItem 48 = .ok (.invokevirtual 65, 3) := by decide +kernel
theorem dX2_turnItem_51 : decode cX2_turnItem 51 = .ok (.ifCond .ne 5, 3) := by decide +kernel
theorem dX2_turnItem_54 : decode cX2_turnItem 54 = .ok (.iconst 0, 1) := by decide +kernel
theorem dX2_turnItem_55 : decode cX2_turnItem 55 = .ok (.ireturn, 1) := by decide +kernel
theorem dX2_turnItem_56 : decode cX2_turnItem 56 = .ok (.aload_n 0, 1) := by decide +kernel
theorem dX2_turnItem_57 : decode cX2_turnItem 57 = .ok (.getfield 12, 3) := by decide +kernel
theorem dX2_turnItem_60 : decode cX2_turnItem 60 = .ok (.getfield 79, 3) := by decide +kernel
theorem dX2_turnItem_63 : decode cX2_turnItem 63 = .ok (.iload_n 1, 1) := by decide +kernel
theorem dX2_turnItem_64 : decode cX2_turnItem 64 = .ok (.iload_n 2, 1) := by decide +kernel
theorem dX2_turnItem_65 : decode cX2_turnItem 65 = .ok (.iastore, 1) := by decide +kernel
theorem dX2_turnItem_66 : decode cX2_turnItem 66 = .ok (.iconst 1, 1) := by decide +kernel
theorem dX2_turnItem_67 : decode cX2_turnItem 67 = .ok (.ireturn, 1) := by decide +kernel
theorem dX2_dayItem_0 : decode cX2_dayItem 0 = .ok (.aload_n 0, 1) := by decide +kernel
theorem dX2_dayItem_1 : decode cX2_dayItem 1 = .ok (.getfield 32, 3) := by decide +kernel
theorem dX2_dayItem_4 : decode cX2_dayItem 4 = .ok (.bipush 6, 2) := by decide +kernel
theorem dX2_dayItem_6 : decode cX2_dayItem 6 = .ok (.if_icmp .eq 5, 3) := by decide +kernel
theorem dX2_dayItem_9 : decode cX2_dayItem 9 = .ok (.iconst 0, 1) := by decide +kernel
theorem dX2_dayItem_10 : decode cX2_dayItem 10 = .ok (.ireturn, 1) := by decide +kernel
theorem dX2_dayItem_11 : decode cX2_dayItem 11 = .ok (.aload_n 0, 1) := by decide +kernel
theorem dX2_dayItem_12 : decode cX2_dayItem 12 = .ok (.invokevirtual 42, 3) := by decide +kernel
theorem dX2_dayItem_15 : decode cX2_dayItem 15 = .ok (.aload_n 0, 1) := by decide +kernel
theorem dX2_dayItem_16 : decode cX2_dayItem 16 = .ok (.invokevirtual 65, 3) := by decide +kernel
theorem dX2_dayItem_19 : decode cX2_dayItem 19 = .ok (.ifCond .ne 5, 3) := by decide +kernel
theorem dX2_dayItem_22 : decode cX2_dayItem 22 = .ok (.iconst 0, 1) := by decide +kernel
theorem dX2_dayItem_23 : decode cX2_dayItem 23 = .ok (.ireturn, 1) := by decide +kernel
theorem dX2_dayItem_24 : decode cX2_dayItem 24 = .ok (.aload_n 0, 1) := by decide +kernel
theorem dX2_dayItem_25 : decode cX2_dayItem 25 = .ok (.getfield 12, 3) := by decide +kernel
theorem dX2_dayItem_28 : decode cX2_dayItem 28 = .ok (.invokevirtual 83, 3) := by decide +kernel
theorem dX2_dayItem_31 : decode cX2_dayItem 31 = .ok (.pop, 1) := by decide +kernel
theorem dX2_dayItem_32 : decode cX2_dayItem 32 = .ok (.iconst 1, 1) := by decide +kernel
theorem dX2_dayItem_33 : decode cX2_dayItem 33 = .ok (.ireturn, 1) := by decide +kernel
theorem dX2_readHours_0 : decode cX2_readHours 0 = .ok (.iconst 0, 1) := by decide +kernel
theorem dX2_readHours_1 : decode cX2_readHours 1 = .ok (.istore_n 1, 1) := by decide +kernel
theorem dX2_readHours_2 : decode cX2_readHours 2 = .ok (.iconst 0, 1) := by decide +kernel
theorem dX2_readHours_3 : decode cX2_readHours 3 = .ok (.istore_n 2, 1) := by decide +kernel
theorem dX2_readHours_4 : decode cX2_readHours 4 = .ok (.iload_n 2, 1) := by decide +kernel
theorem dX2_readHours_5 : decode cX2_readHours 5 = .ok (.aload_n 0, 1) := by decide +kernel
theorem dX2_readHours_6 : decode cX2_readHours 6 = .ok (.getfield 22, 3) := by decide +kernel
theorem dX2_readHours_9 : decode cX2_readHours 9 = .ok (.if_icmp .ge 32, 3) := by decide +kernel
theorem dX2_readHours_12 : decode cX2_readHours 12 = .ok (.aload_n 0, 1) := by decide +kernel
theorem dX2_readHours_13 : decode cX2_readHours 13 = .ok (.iconst 0, 1) := by decide +kernel
theorem dX2_readHours_14 : decode cX2_readHours 14 = .ok (.bipush 7, 2) := by decide +kernel
theorem dX2_readHours_16 : decode cX2_readHours 16 = .ok (.invokevirtual 58, 3) := by decide +kernel
theorem dX2_readHours_19 : decode cX2_readHours 19 = .ok (.ifCond .eq 22, 3) := by decide +kernel
theorem dX2_readHours_22 : decode cX2_readHours 22 = .ok (.iload_n 1, 1) := by decide +kernel
theorem dX2_readHours_23 : decode cX2_readHours 23 = .ok (.iconst 1, 1) := by decide +kernel
theorem dX2_readHours_24 : decode cX2_readHours 24 = .ok (.aload_n 0, 1) := by decide +kernel
theorem dX2_readHours_25 : decode cX2_readHours 25 = .ok (.getfield 35, 3) := by decide +kernel
theorem dX2_readHours_28 : decode cX2_readHours 28 = .ok (.ishl, 1) := by decide +kernel
theorem dX2_readHours_29 : decode cX2_readHours 29 = .ok (.ior, 1) := by decide +kernel
theorem dX2_readHours_30 : decode cX2_readHours 30 = .ok (.istore_n 1, 1) := by decide +kernel
theorem dX2_readHours_31 : decode cX2_readHours 31 = .ok (.aload_n 0, 1) := by decide +kernel
theorem dX2_readHours_32 : decode cX2_readHours 32 = .ok (.invokevirtual 42, 3) := by decide +kernel
theorem dX2_readHours_35 : decode cX2_readHours 35 = .ok (.iinc 2 1, 3) := by decide +kernel
theorem dX2_readHours_38 : decode cX2_readHours 38 = .ok (.goto (-34), 3) := by decide +kernel
theorem dX2_readHours_41 : decode cX2_readHours 41 = .ok (.iload_n 1, 1) := by decide +kernel
theorem dX2_readHours_42 : decode cX2_readHours 42 = .ok (.ireturn, 1) := by decide +kernel
theorem dX2_semicolon_0 : decode cX2_semicolon 0 = .ok (.aload_n 0, 1) := by decide +kernel
theorem dX2_semicolon_1 : decode cX2_semicolon 1 = .ok (.getfield 32, 3) := by decide +kernel
theorem dX2_semicolon_4 : decode cX2_semicolon 4 = .ok (.iconst 1, 1) := by decide +kernel
theorem dX2_semicolon_5 : decode cX2_semicolon 5 = .ok (.if_icmp .eq 5, 3) := by decide +kernel
theorem dX2_semicolon_8 : decode cX2_semicolon 8 = .ok (.iconst 0, 1) := by decide +kernel
theorem dX2_semicolon_9 : decode cX2_semicolon 9 = .ok (.ireturn, 1) := by decide +kernel
theorem dX2_semicolon_10 : decode cX2_semicolon 10 = .ok (.aload_n 0, 1) := by decide +kernel
theorem dX2_semicolon_11 : decode cX2_semicolon 11 = .ok (.invokevirtual 42, 3) := by decide +kernel
theorem dX2_semicolon_14 : decode cX2_semicolon 14 = .ok (.iconst 1, 1) := by decide +kernel
theorem dX2_semicolon_15 : decode cX2_semicolon 15 = .ok (.ireturn, 1) := by decide +kernel
theorem dX2_isNumber_0 : decode cX2_isNumber 0 = .ok (.aload_n 0, 1) := by decide +kernel
theorem dX2_isNumber_1 : decode cX2_isNumber 1 = .ok (.getfield 32, 3) := by decide +kernel
theorem dX2_isNumber_4 : decode cX2_isNumber 4 = .ok (.iconst 2, 1) := by decide +kernel
theorem dX2_isNumber_5 : decode cX2_isNumber 5 = .ok (.if_icmp .ne 23, 3) := by decide +kernel
theorem dX2_isNumber_8 : decode cX2_isNumber 8 = .ok (.aload_n 0, 1) := by decide +kernel
theorem dX2_isNumber_9 : decode cX2_isNumber 9 = .ok (.getfield 35, 3) := by decide +kernel
theorem dX2_isNumber_12 : decode cX2_isNumber 12 = .ok (.iload_n 1, 1) := by decide +kernel
theorem dX2_isNumber_13 : decode cX2_isNumber 13 = .ok (.if_icmp .lt 15, 3) := by decide +kernel
theorem dX2_isNumber_16 : decode cX2_isNumber 16 = .ok (.aload_n 0, 1) := by decide +kernel
theorem dX2_isNumber_17 : decode cX2_isNumber 17 = .ok (.getfield 35, 3) := by decide +kernel
theorem dX2_isNumber_20 : decode cX2_isNumber 20 = .ok (.iload_n 2, 1) := by decide +kernel
theorem dX2_isNumber_21 : decode cX2_isNumber 21 = .ok (.if_icmp .gt 7, 3) := by decide +kernel
theorem dX2_isNumber_24 : decode cX2_isNumber 24 = .ok (.iconst 1, 1) := by decide +kernel
theorem dX2_isNumber_25 : decode cX2_isNumber 25 = .ok (.goto 4, 3) := by decide +kernel
theorem dX2_isNumber_28 : decode cX2_isNumber 28 = .ok (.iconst 0, 1) := by decide +kernel
theorem dX2_isNumber_29 : decode cX2_isNumber 29 = .ok (.ireturn, 1) := by decide +kernel
theorem dX2_step_0 : decode cX2_step 0 = .ok (.aload_n 0, 1) := by decide +kernel
theorem dX2_step_1 : decode cX2_step 1 = .ok (.getfield 29, 3) := by decide +kernel
theorem dX2_step_4 : decode cX2_step 4 = .ok (.aload_n 0, 1) := by decide +kernel
theorem dX2_step_5 : decode cX2_step 5 = .ok (.getfield 22, 3) := by decide +kernel
theorem dX2_step_8 : decode cX2_step 8 = .ok (.if_icmp .ge 30, 3) := by decide +kernel
theorem dX2_step_11 : decode cX2_step 11 = .ok (.aload_n 0, 1) := by decide +kernel
theorem dX2_step_12 : decode cX2_step 12 = .ok (.getfield 25, 3) := by decide +kernel
theorem dX2_step_15 : decode cX2_step 15 = .ok (.aload_n 0, 1) := by decide +kernel
theorem dX2_step_16 : decode cX2_step 16 = .ok (.getfield 29, 3) := by decide +kernel
theorem dX2_step_19 : decode cX2_step 19 = .ok (.baload, 1) := by decide +kernel
theorem dX2_step_20 : decode cX2_step 20 = .ok (.bipush 32, 2) := by decide +kernel
theorem dX2_step_22 : decode cX2_step 22 = .ok (.if_icmp .ne 16, 3) := by decide +kernel
theorem dX2_step_25 : decode cX2_step 25 = .ok (.aload_n 0, 1) := by decide +kernel
theorem dX2_step_26 : decode cX2_step 26 = .ok (.dup, 1) := by decide +kernel
theorem dX2_step_27 : decode cX2_step 27 = .ok (.getfield 29, 3) := by decide +kernel
theorem dX2_step_30 : decode cX2_step 30 = .ok (.iconst 1, 1) := by decide +kernel
theorem dX2_step_31 : decode cX2_step 31 = .ok (.iadd, 1) := by decide +kernel
theorem dX2_step_32 : decode cX2_step 32 = .ok (.putfield 29, 3) := by decide +kernel
theorem dX2_step_35 : decode cX2_step 35 = .ok (.goto (-35), 3) := by decide +kernel
theorem dX2_step_38 : decode cX2_step 38 = .ok (.aload_n 0, 1) := by decide +kernel
theorem dX2_step_39 : decode cX2_step 39 = .ok (.aload_n 0, 1) := by decide +kernel
theorem dX2_step_40 : decode cX2_step 40 = .ok (.getfield 29, 3) := by decide +kernel
theorem dX2_step_43 : decode cX2_step 43 = .ok (.putfield 18, 3) := by decide +kernel
theorem dX2_step_46 : decode cX2_step 46 = .ok (.aload_n 0, 1) := by decide +kernel
theorem dX2_step_47 : decode cX2_step 47 = .ok (.getfield 29, 3) := by decide +kernel
theorem dX2_step_50 : decode cX2_step 50 = .ok (.aload_n 0, 1) := by decide +kernel
theorem dX2_step_51 : decode cX2_step 51 = .ok (.getfield 22, 3) := by decide +kernel
theorem dX2_step_54 : decode cX2_step 54 = .ok (.if_icmp .lt 11, 3) := by decide +kernel
theorem dX2_step_57 : decode cX2_step 57 = .ok (.aload_n 0, 1) := by decide +kernel
theorem dX2_step_58 : decode cX2_step 58 = .ok (.iconst 0, 1) := by decide +kernel
theorem dX2_step_59 : decode cX2_step 59 = .ok (.putfield 32, 3) := by decide +kernel
theorem dX2_step_62 : decode cX2_step 62 = .ok (.goto 51, 3) := by decide +kernel
theorem dX2_step_65 : decode cX2_step 65 = .ok (.aload_n 0, 1) := by decide +kernel
theorem dX2_step_66 : decode cX2_step 66 = .ok (.getfield 25, 3) := by decide +kernel
theorem dX2_step_69 : decode cX2_step 69 = .ok (.aload_n 0, 1) := by decide +kernel
theorem dX2_step_70 : decode cX2_step 70 = .ok (.getfield 29, 3) := by decide +kernel
theorem dX2_step_73 : decode cX2_step 73 = .ok (.baload, 1) := by decide +kernel
theorem dX2_step_74 : decode cX2_step 74 = .ok (.invokestatic 86, 3) := by decide +kernel
theorem dX2_step_77 : decode cX2_step 77 = .ok (.ifCond .eq 10, 3) := by decide +kernel
theorem dX2_step_80 : decode cX2_step 80 = .ok (.aload_n 0, 1) := by decide +kernel
theorem dX2_step_81 : decode cX2_step 81 = .ok (.invokevirtual 90, 3) := by decide +kernel
theorem dX2_step_84 : decode cX2_step 84 = .ok (.goto 29, 3) := by decide +kernel
theorem dX2_step_87 : decode cX2_step 87 = .ok (.aload_n 0, 1) := by decide +kernel
theorem dX2_step_88 : decode cX2_step 88 = .ok (.getfield 25, 3) := by decide +kernel
theorem dX2_step_91 : decode cX2_step 91 = .ok (.aload_n 0, 1) := by decide +kernel
theorem dX2_step_92 : decode cX2_step 92 = .ok (.getfield 29, 3) := by decide +kernel
theorem dX2_step_95 : decode cX2_step 95 = .ok (.baload, 1) := by decide +kernel
theorem dX2_step_96 : decode cX2_step 96 = .ok (.invokestatic 93, 3) := by decide +kernel
theorem dX2_step_99 : decode cX2_step 99 = .ok (.ifCond .eq 10, 3) := by decide +kernel
theorem dX2_step_102 : decode cX2_step 102 = .ok (.aload_n 0, 1) := by decide +kernel
theorem dX2_step_103 : decode cX2_step 103 = .ok (.invokevirtual 96, 3) := by decide +kernel
theorem dX2_step_106 : decode cX2_step 106 = .ok (.goto 7, 3) := by decide +kernel
theorem dX2_step_109 : decode cX2_step 109 = .ok (.aload_n 0, 1) := by decide +kernel
theorem dX2_step_110 : decode cX2_step 110 = .ok (.invokevirtual 99, 3) := by decide +kernel
theorem dX2_step_113 : decode cX2_step 113 = .ok (.return_, 1) := by decide +kernel
theorem dX2_takeWord_0 : decode cX2_takeWord 0 = .ok (.iconst 0, 1) := by decide +kernel
theorem dX2_takeWord_1 : decode cX2_takeWord 1 = .ok (.istore_n 1, 1) := by decide +kernel
theorem dX2_takeWord_2 : decode cX2_takeWord 2 = .ok (.aload_n 0, 1) := by decide +kernel
theorem dX2_takeWord_3 : decode cX2_takeWord 3 = .ok (.getfield 29, 3) := by decide +kernel
theorem dX2_takeWord_6 : decode cX2_takeWord 6 = .ok (.aload_n 0, 1) := by decide +kernel
theorem dX2_takeWord_7 : decode cX2_takeWord 7 = .ok (.getfield 22, 3) := by decide +kernel
theorem dX2_takeWord_10 : decode cX2_takeWord 10 = .ok (.if_icmp .ge 46, 3) := by decide +kernel
theorem dX2_takeWord_13 : decode cX2_takeWord 13 = .ok (.aload_n 0, 1) := by decide +kernel
theorem dX2_takeWord_14 : decode cX2_takeWord 14 = .ok (.getfield 25, 3) := by decide +kernel
theorem dX2_takeWord_17 : decode cX2_takeWord 17 = .ok (.aload_n 0, 1) := by decide +kernel
theorem dX2_takeWord_18 : decode cX2_takeWord 18 = .ok (.getfield 29, 3) := by decide +kernel
theorem dX2_takeWord_21 : decode cX2_takeWord 21 = .ok (.baload, 1) := by decide +kernel
theorem dX2_takeWord_22 : decode cX2_takeWord 22 = .ok (.invokestatic 86, 3) := by decide +kernel
theorem dX2_takeWord_25 : decode cX2_takeWord 25 = .ok (.ifCond .eq 31, 3) := by decide +kernel
theorem dX2_takeWord_28 : decode cX2_takeWord 28 = .ok (.iload_n 1, 1) := by decide +kernel
theorem dX2_takeWord_29 : decode cX2_takeWord 29 = .ok (.bipush 8, 2) := by decide +kernel
theorem dX2_takeWord_31 : decode cX2_takeWord 31 = .ok (.ishl, 1) := by decide +kernel
theorem dX2_takeWord_32 : decode cX2_takeWord 32 = .ok (.aload_n 0, 1) := by decide +kernel
theorem dX2_takeWord_33 : decode cX2_takeWord 33 = .ok (.getfield 25, 3) := by decide +kernel
theorem dX2_takeWord_36 : decode cX2_takeWord 36 = .ok (.aload_n 0, 1) := by decide +kernel
theorem dX2_takeWord_37 : decode cX2_takeWord 37 = .ok (.getfield 29, 3) := by decide +kernel
theorem dX2_takeWord_40 : decode cX2_takeWord 40 = .ok (.baload, 1) := by decide +kernel
theorem dX2_takeWord_41 : decode cX2_takeWord 41 = .ok (.ior, 1) := by decide +kernel
theorem dX2_takeWord_42 : decode cX2_takeWord 42 = .ok (.istore_n 1, 1) := by decide +kernel
theorem dX2_takeWord_43 : decode cX2_takeWord 43 = .ok (.aload_n 0, 1) := by decide +kernel
theorem dX2_takeWord_44 : decode cX2_takeWord 44 = .ok (.dup, 1) := by decide +kernel
theorem dX2_takeWord_45 : decode cX2_takeWord 45 = .ok (.getfield 29, 3) := by decide +kernel
theorem dX2_takeWord_48 : decode cX2_takeWord 48 = .ok (.iconst 1, 1) := by decide +kernel
theorem dX2_takeWord_49 : decode cX2_takeWord 49 = .ok (.iadd, 1) := by decide +kernel
theorem dX2_takeWord_50 : decode cX2_takeWord 50 = .ok (.putfield 29, 3) := by decide +kernel
theorem dX2_takeWord_53 : decode cX2_takeWord 53 = .ok (.goto (-51), 3) := by decide +kernel
theorem dX2_takeWord_56 : decode cX2_takeWord 56 = .ok (.aload_n 0, 1) := by decide +kernel
theorem dX2_takeWord_57 : decode cX2_takeWord 57 = .ok (.getfield 29, 3) := by decide +kernel
theorem dX2_takeWord_60 : decode cX2_takeWord 60 = .ok (.aload_n 0, 1) := by decide +kernel
theorem dX2_takeWord_61 : decode cX2_takeWord 61 = .ok (.getfield 18, 3) := by decide +kernel
theorem dX2_takeWord_64 : decode cX2_takeWord 64 = .ok (.isub, 1) := by decide +kernel
theorem dX2_takeWord_65 : decode cX2_takeWord 65 = .ok (.iconst 4, 1) := by decide +kernel
theorem dX2_takeWord_66 : decode cX2_takeWord 66 = .ok (.if_icmp .le 5, 3) := by decide +kernel
theorem dX2_takeWord_69 : decode cX2_takeWord 69 = .ok (.iconst 0, 1) := by decide +kernel
theorem dX2_takeWord_70 : decode cX2_takeWord 70 = .ok (.istore_n 1, 1) := by decide +kernel
theorem dX2_takeWord_71 : decode cX2_takeWord 71 = .ok (.iload_n 1, 1) := by decide +kernel
theorem dX2_takeWord_72 : decode cX2_takeWord 72 = .ok (.lookupswitch 77 #[(6578553, 68), (1835100526, 44), (1953854062, 60), (2003135596, 52)], 44) := by decide +kernel
theorem dX2_takeWord_116 : decode cX2_takeWord 116 = .ok (.aload_n 0, 1) := by decide +kernel
theorem dX2_takeWord_117 : decode cX2_takeWord 117 = .ok (.iconst 3, 1) := by decide +kernel
theorem dX2_takeWord_118 : decode cX2_takeWord 118 = .ok (.putfield 32, 3) := by decide +kernel
theorem dX2_takeWord_121 : decode cX2_takeWord 121 = .ok (.goto 34, 3) := by decide +kernel
theorem dX2_takeWord_124 : decode cX2_takeWord 124 = .ok (.aload_n 0, 1) := by decide +kernel
theorem dX2_takeWord_125 : decode cX2_takeWord 125 = .ok (.iconst 4, 1) := by decide +kernel
theorem dX2_takeWord_126 : decode cX2_takeWord 126 = .ok (.putfield 32, 3) := by decide +kernel
theorem dX2_takeWord_129 : decode cX2_takeWord 129 = .ok (.goto 26, 3) := by decide +kernel
theorem dX2_takeWord_132 : decode cX2_takeWord 132 = .ok (.aload_n 0, 1) := by decide +kernel
theorem dX2_takeWord_133 : decode cX2_takeWord 133 = .ok (.iconst 5, 1) := by decide +kernel
theorem dX2_takeWord_134 : decode cX2_takeWord 134 = .ok (.putfield 32, 3) := by decide +kernel
theorem dX2_takeWord_137 : decode cX2_takeWord 137 = .ok (.goto 18, 3) := by decide +kernel
theorem dX2_takeWord_140 : decode cX2_takeWord 140 = .ok (.aload_n 0, 1) := by decide +kernel
theorem dX2_takeWord_141 : decode cX2_takeWord 141 = .ok (.bipush 6, 2) := by decide +kernel
theorem dX2_takeWord_143 : decode cX2_takeWord 143 = .ok (.putfield 32, 3) := by decide +kernel
theorem dX2_takeWord_146 : decode cX2_takeWord 146 = .ok (.goto 9, 3) := by decide +kernel
theorem dX2_takeWord_149 : decode cX2_takeWord 149 = .ok (.aload_n 0, 1) := by decide +kernel
theorem dX2_takeWord_150 : decode cX2_takeWord 150 = .ok (.bipush 7, 2) := by decide +kernel
theorem dX2_takeWord_152 : decode cX2_takeWord 152 = .ok (.putfield 32, 3) := by decide +kernel
theorem dX2_takeWord_155 : decode cX2_takeWord 155 = .ok (.return_, 1) := by decide +kernel
theorem dX2_takeNumber_0 : decode cX2_takeNumber 0 = .ok (.aload_n 0, 1) := by decide +kernel
theorem dX2_takeNumber_1 : decode cX2_takeNumber 1 = .ok (.iconst 0, 1) := by decide +kernel
theorem dX2_takeNumber_2 : decode cX2_takeNumber 2 = .ok (.putfield 35, 3) := by decide +kernel
theorem dX2_takeNumber_5 : decode cX2_takeNumber 5 = .ok (.aload_n 0, 1) := by decide +kernel
theorem dX2_takeNumber_6 : decode cX2_takeNumber 6 = .ok (.getfield 29, 3) := by decide +kernel
theorem dX2_takeNumber_9 : decode cX2_takeNumber 9 = .ok (.aload_n 0, 1) := by decide +kernel
theorem dX2_takeNumber_10 : decode cX2_takeNumber 10 = .ok (.getfield 22, 3) := by decide +kernel
theorem dX2_takeNumber_13 : decode cX2_takeNumber 13 = .ok (.if_icmp .ge 68, 3) := by decide +kernel
theorem dX2_takeNumber_16 : decode cX2_takeNumber 16 = .ok (.aload_n 0, 1) := by decide +kernel
theorem dX2_takeNumber_17 : decode cX2_takeNumber 17 = .ok (.getfield 25, 3) := by decide +kernel
theorem dX2_takeNumber_20 : decode cX2_takeNumber 20 = .ok (.aload_n 0, 1) := by decide +kernel
theorem dX2_takeNumber_21 : decode cX2_takeNumber 21 = .ok (.getfield 29, 3) := by decide +kernel
theorem dX2_takeNumber_24 : decode cX2_takeNumber 24 = .ok (.baload, 1) := by decide +kernel
theorem dX2_takeNumber_25 : decode cX2_takeNumber 25 = .ok (.invokestatic 93, 3) := by decide +kernel
theorem dX2_takeNumber_28 : decode cX2_takeNumber 28 = .ok (.ifCond .eq 53, 3) := by decide +kernel
theorem dX2_takeNumber_31 : decode cX2_takeNumber 31 = .ok (.aload_n 0, 1) := by decide +kernel
theorem dX2_takeNumber_32 : decode cX2_takeNumber 32 = .ok (.getfield 29, 3) := by decide +kernel
theorem dX2_takeNumber_35 : decode cX2_takeNumber 35 = .ok (.aload_n 0, 1) := by decide +kernel
theorem dX2_takeNumber_36 : decode cX2_takeNumber 36 = .ok (.getfield 18, 3) := by decide +kernel
theorem dX2_takeNumber_39 : decode cX2_takeNumber 39 = .ok (.isub, 1) := by decide +kernel
theorem dX2_takeNumber_40 : decode cX2_takeNumber 40 = .ok (.iconst 2, 1) := by decide +kernel
theorem dX2_takeNumber_41 : decode cX2_takeNumber 41 = .ok (.if_icmp .ge 27, 3) := by decide +kernel
theorem dX2_takeNumber_44 : decode cX2_takeNumber 44 = .ok (.aload_n 0, 1) := by decide +kernel
theorem dX2_takeNumber_45 : decode cX2_takeNumber 45 = .ok (.bipush 10, 2) := by decide +kernel
theorem dX2_takeNumber_47 : decode cX2_takeNumber 47 = .ok (.aload_n 0, 1) := by decide +kernel
theorem dX2_takeNumber_48 : decode cX2_takeNumber 48 = .ok (.getfield 35, 3) := by decide +kernel
theorem dX2_takeNumber_51 : decode cX2_takeNumber 51 = .ok (.imul, 1) := by decide +kernel
theorem dX2_takeNumber_52 : decode cX2_takeNumber 52 = .ok (.aload_n 0, 1) := by decide +kernel
theorem dX2_takeNumber_53 : decode cX2_takeNumber 53 = .ok (.getfield 25, 3) := by decide +kernel
theorem dX2_takeNumber_56 : decode cX2_takeNumber 56 = .ok (.aload_n 0, 1) := by decide +kernel
theorem dX2_takeNumber_57 : decode cX2_takeNumber 57 = .ok (.getfield 29, 3) := by decide +kernel
theorem dX2_takeNumber_60 : decode cX2_takeNumber 60 = .ok (.baload, 1) := by decide +kernel
theorem dX2_takeNumber_61 : decode cX2_takeNumber 61 = .ok (.iadd, 1) := by decide +kernel
theorem dX2_takeNumber_62 : decode cX2_takeNumber 62 = .ok (.bipush 48, 2) := by decide +kernel
theorem dX2_takeNumber_64 : decode cX2_takeNumber 64 = .ok (.isub, 1) := by decide +kernel
theorem dX2_takeNumber_65 : decode cX2_takeNumber 65 = .ok (.putfield 35, 3) := by decide +kernel
theorem dX2_takeNumber_68 : decode cX2_takeNumber 68 = .ok (.aload_n 0, 1) := by decide +kernel
theorem dX2_takeNumber_69 : decode cX2_takeNumber 69 = .ok (.dup, 1) := by decide +kernel
theorem dX2_takeNumber_70 : decode cX2_takeNumber 70 = .ok (.getfield 29, 3) := by decide +kernel
theorem dX2_takeNumber_73 : decode cX2_takeNumber 73 = .ok (.iconst 1, 1) := by decide +kernel
theorem dX2_takeNumber_74 : decode cX2_takeNumber 74 = .ok (.iadd, 1) := by decide +kernel
theorem dX2_takeNumber_75 : decode cX2_takeNumber 75 = .ok (.putfield 29, 3) := by decide +kernel
theorem dX2_takeNumber_78 : decode cX2_takeNumber 78 = .ok (.goto (-73), 3) := by decide +kernel
theorem dX2_takeNumber_81 : decode cX2_takeNumber 81 = .ok (.aload_n 0, 1) := by decide +kernel
theorem dX2_takeNumber_82 : decode cX2_takeNumber 82 = .ok (.aload_n 0, 1) := by decide +kernel
theorem dX2_takeNumber_83 : decode cX2_takeNumber 83 = .ok (.getfield 29, 3) := by decide +kernel
theorem dX2_takeNumber_86 : decode cX2_takeNumber 86 = .ok (.aload_n 0, 1) := by decide +kernel
theorem dX2_takeNumber_87 : decode cX2_takeNumber 87 = .ok (.getfield 18, 3) := by decide +kernel
theorem dX2_takeNumber_90 : decode cX2_takeNumber 90 = .ok (.isub, 1) := by decide +kernel
theorem dX2_takeNumber_91 : decode cX2_takeNumber 91 = .ok (.iconst 2, 1) := by decide +kernel
theorem dX2_takeNumber_92 : decode cX2_takeNumber 92 = .ok (.if_icmp .gt 7, 3) := by decide +kernel
theorem dX2_takeNumber_95 : decode cX2_takeNumber 95 = .ok (.iconst 2, 1) := by decide +kernel
theorem dX2_takeNumber_96 : decode cX2_takeNumber 96 = .ok (.goto 5, 3) := by decide +kernel
theorem dX2_takeNumber_99 : decode cX2_takeNumber 99 = .ok (.bipush 7, 2) := by decide +kernel
theorem dX2_takeNumber_101 : decode cX2_takeNumber 101 = .ok (.putfield 32, 3) := by decide +kernel
theorem dX2_takeNumber_104 : decode cX2_takeNumber 104 = .ok (.return_, 1) := by decide +kernel
theorem dX2_takeSign_0 : decode cX2_takeSign 0 = .ok (.aload_n 0, 1) := by decide +kernel
theorem dX2_takeSign_1 : decode cX2_takeSign 1 = .ok (.aload_n 0, 1) := by decide +kernel
theorem dX2_takeSign_2 : decode cX2_takeSign 2 = .ok (.getfield 25, 3) := by decide +kernel
theorem dX2_takeSign_5 : decode cX2_takeSign 5 = .ok (.aload_n 0, 1) := by decide +kernel
theorem dX2_takeSign_6 : decode cX2_takeSign 6 = .ok (.getfield 29, 3) := by decide +kernel
theorem dX2_takeSign_9 : decode cX2_takeSign 9 = .ok (.baload, 1) := by decide +kernel
theorem dX2_takeSign_10 : decode cX2_takeSign 10 = .ok (.bipush 59, 2) := by decide +kernel
theorem dX2_takeSign_12 : decode cX2_takeSign 12 = .ok (.if_icmp .ne 7, 3) := by decide +kernel
theorem dX2_takeSign_15 : decode cX2_takeSign 15 = .ok (.iconst 1, 1) := by decide +kernel
theorem dX2_takeSign_16 : decode cX2_takeSign 16 = .ok (.goto 5, 3) := by decide +kernel
theorem dX2_takeSign_19 : decode cX2_takeSign 19 = .ok (.bipush 7, 2) := by decide +kernel
theorem dX2_takeSign_21 : decode cX2_takeSign 21 = .ok (.putfield 32, 3) := by decide +kernel
theorem dX2_takeSign_24 : decode cX2_takeSign 24 = .ok (.aload_n 0, 1) := by decide +kernel
theorem dX2_takeSign_25 : decode cX2_takeSign 25 = .ok (.dup, 1) := by decide +kernel
theorem dX2_takeSign_26 : decode cX2_takeSign 26 = .ok (.getfield 29, 3) := by decide +kernel
theorem dX2_takeSign_29 : decode cX2_takeSign 29 = .ok (.iconst 1, 1) := by decide +kernel
theorem dX2_takeSign_30 : decode cX2_takeSign 30 = .ok (.iadd, 1) := by decide +kernel
theorem dX2_takeSign_31 : decode cX2_takeSign 31 = .ok (.putfield 29, 3) := by decide +kernel
theorem dX2_takeSign_34 : decode cX2_takeSign 34 = .ok (.return_, 1) := by decide +kernel
theorem dX2_isLetter_0 : decode cX2_isLetter 0 = .ok (.iload_n 0, 1) := by decide +kernel
theorem dX2_isLetter_1 : decode cX2_isLetter 1 = .ok (.bipush 97, 2) := by decide +kernel
theorem dX2_isLetter_3 : decode cX2_isLetter 3 = .ok (.if_icmp .lt 13, 3) := by decide +kernel
theorem dX2_isLetter_6 : decode cX2_isLetter 6 = .ok (.iload_n 0, 1) := by decide +kernel
theorem dX2_isLetter_7 : decode cX2_isLetter 7 = .ok (.bipush 122, 2) := by decide +kernel
theorem dX2_isLetter_9 : decode cX2_isLetter 9 = .ok (.if_icmp .gt 7, 3) := by decide +kernel
theorem dX2_isLetter_12 : decode cX2_isLetter 12 = .ok (.iconst 1, 1) := by decide +kernel
theorem dX2_isLetter_13 : decode cX2_isLetter 13 = .ok (.goto 4, 3) := by decide +kernel
theorem dX2_isLetter_16 : decode cX2_isLetter 16 = .ok (.iconst 0, 1) := by decide +kernel
theorem dX2_isLetter_17 : decode cX2_isLetter 17 = .ok (.ireturn, 1) := by decide +kernel
theorem dX2_isFigure_0 : decode cX2_isFigure 0 = .ok (.iload_n 0, 1) := by decide +kernel
theorem dX2_isFigure_1 : decode cX2_isFigure 1 = .ok (.bipush 48, 2) := by decide +kernel
theorem dX2_isFigure_3 : decode cX2_isFigure 3 = .ok (.if_icmp .lt 13, 3) := by decide +kernel
theorem dX2_isFigure_6 : decode cX2_isFigure 6 = .ok (.iload_n 0, 1) := by decide +kernel
theorem dX2_isFigure_7 : decode cX2_isFigure 7 = .ok (.bipush 57, 2) := by decide +kernel
theorem dX2_isFigure_9 : decode cX2_isFigure 9 = .ok (.if_icmp .gt 7, 3) := by decide +kernel
theorem dX2_isFigure_12 : decode cX2_isFigure 12 = .ok (.iconst 1, 1) := by decide +kernel
theorem dX2_isFigure_13 : decode cX2_isFigure 13 = .ok (.goto 4, 3) := by decide +kernel
theorem dX2_isFigure_16 : decode cX2_isFigure 16 = .ok (.iconst 0, 1) := by decide +kernel
theorem dX2_isFigure_17 : decode cX2_isFigure 17 = .ok (.ireturn, 1) := by decide +kernel
theorem dX3_init_0 : decode cX3_init 0 = .ok (.aload_n 0, 1) := by decide +kernel
theorem dX3_init_1 : decode cX3_init 1 = .ok (.invokespecial 3, 3) := by decide +kernel
theorem dX3_init_4 : decode cX3_init 4 = .ok (.aload_n 0, 1) := by decide +kernel
theorem dX3_init_5 : decode cX3_init 5 = .ok (.iconst 0, 1) := by decide +kernel
theorem dX3_init_6 : decode cX3_init 6 = .ok (.putfield 9, 3) := by decide +kernel
theorem dX3_init_9 : decode cX3_init 9 = .ok (.aload_n 0, 1) := by decide +kernel
theorem dX3_init_10 : decode cX3_init 10 = .ok (.iconst 0, 1) := by decide +kernel
theorem dX3_init_11 : decode cX3_init 11 = .ok (.putfield 15, 3) := by decide +kernel
theorem dX3_init_14 : decode cX3_init 14 = .ok (.aload_n 0, 1) := by decide +kernel
theorem dX3_init_15 : decode cX3_init 15 = .ok (.iconst 5, 1) := by decide +kernel
theorem dX3_init_16 : decode cX3_init 16 = .ok (.newarray .int, 2) := by decide +kernel
theorem dX3_init_18 : decode cX3_init 18 = .ok (.putfield 19, 3) := by decide +kernel
theorem dX3_init_21 : decode cX3_init 21 = .ok (.aload_n 0, 1) := by decide +kernel
theorem dX3_init_22 : decode cX3_init 22 = .ok (.iconst 5, 1) := by decide +kernel
theorem dX3_init_23 : decode cX3_init 23 = .ok (.newarray .int, 2) := by decide +kernel
theorem dX3_init_25 : decode cX3_init 25 = .ok (.putfield 23, 3) := by decide +kernel
theorem dX3_init_28 : decode cX3_init 28 = .ok (.aload_n 0, 1) := by decide +kernel
theorem dX3_init_29 : decode cX3_init 29 = .ok (.bipush 8, 2) := by decide +kernel
theorem dX3_init_31 : decode cX3_init 31 = .ok (.newarray .int, 2) := by decide +kernel
theorem dX3_init_33 : decode cX3_init 33 = .ok (.putfield 26, 3) := by decide +kernel
theorem dX3_init_36 : decode cX3_init 36 = .ok (.aload_n 0, 1) := by decide +kernel
theorem dX3_init_37 : decode cX3_init 37 = .ok (.iconst 5, 1) := by decide +kernel
theorem dX3_init_38 : decode cX3_init 38 = .ok (.newarray .int, 2) := by decide +kernel
theorem dX3_init_40 : decode cX3_init 40 = .ok (.putfield 29, 3) := by decide +kernel
theorem dX3_init_43 : decode cX3_init 43 = .ok (.aload_n 0, 1) := by decide +kernel
theorem dX3_init_44 : decode cX3_init 44 = .ok (.iconst 0, 1) := by decide +kernel
theorem dX3_init_45 : decode cX3_init 45 = .ok (.putfield 32, 3) := by decide +kernel
theorem dX3_init_48 : decode cX3_init 48 = .ok (.return_, 1) := by decide +kernel
theorem dX3_mostHad_0 : decode cX3_mostHad 0 = .ok (.aload_n 0, 1) := by decide +kernel
theorem dX3_mostHad_1 : decode cX3_mostHad 1 = .ok (.iconst 0, 1) := by decide +kernel
theorem dX3_mostHad_2 : decode cX3_mostHad 2 = .ok (.putfield 32, 3) := by decide +kernel
theorem dX3_mostHad_5 : decode cX3_mostHad 5 = .ok (.iconst 0, 1) := by decide +kernel
theorem dX3_mostHad_6 : decode cX3_mostHad 6 = .ok (.istore_n 2, 1) := by decide +kernel
theorem dX3_mostHad_7 : decode cX3_mostHad 7 = .ok (.iload_n 2, 1) := by decide +kernel
theorem dX3_mostHad_8 : decode cX3_mostHad 8 = .ok (.aload_n 1, 1) := by decide +kernel
theorem dX3_mostHad_9 : decode cX3_mostHad 9 = .ok (.getfield 35, 3) := by decide +kernel
theorem dX3_mostHad_12 : decode cX3_mostHad 12 = .ok (.if_icmp .ge 16, 3) := by decide +kernel
theorem dX3_mostHad_15 : decode cX3_mostHad 15 = .ok (.aload_n 0, 1) := by decide +kernel
theorem dX3_mostHad_16 : decode cX3_mostHad 16 = .ok (.getfield 29, 3) := by decide +kernel
theorem dX3_mostHad_19 : decode cX3_mostHad 19 = .ok (.iload_n 2, 1) := by decide +kernel
theorem dX3_mostHad_20 : decode cX3_mostHad 20 = .ok (.iconst 0, 1) := by decide +kernel
theorem dX3_mostHad_21 : decode cX3_mostHad 21 = .ok (.iastore, 1) := by decide +kernel
theorem dX3_mostHad_22 : decode cX3_mostHad 22 = .ok (.iinc 2 1, 3) := by decide +kernel
theorem dX3_mostHad_25 : decode cX3_mostHad 25 = .ok (.goto (-18), 3) := by decide +kernel
theorem dX3_mostHad_28 : decode cX3_mostHad 28 = .ok (.aload_n 0, 1) := by decide +kernel
theorem dX3_mostHad_29 : decode cX3_mostHad 29 = .ok (.aload_n 1, 1) := by decide +kernel
theorem dX3_mostHad_30 : decode cX3_mostHad 30 = .ok (.invokevirtual 40, 3) := by decide +kernel
theorem dX3_mostHad_33 : decode cX3_mostHad 33 = .ok (.return_, 1) := by decide +kernel
theorem dX3_leastDue_0 : decode cX3_leastDue 0 = .ok (.aload_n 0, 1) := by decide +kernel
theorem dX3_leastDue_1 : decode cX3_leastDue 1 = .ok (.iconst 1, 1) := by decide +kernel
theorem dX3_leastDue_2 : decode cX3_leastDue 2 = .ok (.putfield 32, 3) := by decide +kernel
theorem dX3_leastDue_5 : decode cX3_leastDue 5 = .ok (.iconst 0, 1) := by decide +kernel
theorem dX3_leastDue_6 : decode cX3_leastDue 6 = .ok (.istore_n 2, 1) := by decide +kernel
theorem dX3_leastDue_7 : decode cX3_leastDue 7 = .ok (.iload_n 2, 1) := by decide +kernel
theorem dX3_leastDue_8 : decode cX3_leastDue 8 = .ok (.aload_n 1, 1) := by decide +kernel
theorem dX3_leastDue_9 : decode cX3_leastDue 9 = .ok (.getfield 35, 3) := by decide +kernel
theorem dX3_leastDue_12 : decode cX3_leastDue 12 = .ok (.if_icmp .ge 20, 3) := by decide +kernel
theorem dX3_leastDue_15 : decode cX3_leastDue 15 = .ok (.aload_n 0, 1) := by decide +kernel
theorem dX3_leastDue_16 : decode cX3_leastDue 16 = .ok (.getfield 29, 3) := by decide +kernel
theorem dX3_leastDue_19 : decode cX3_leastDue 19 = .ok (.iload_n 2, 1) := by decide +kernel
theorem dX3_leastDue_20 : decode cX3_leastDue 20 = .ok (.aload_n 1, 1) := by decide +kernel
theorem dX3_leastDue_21 : decode cX3_leastDue 21 = .ok (.iload_n 2, 1) := by decide +kernel
theorem dX3_leastDue_22 : decode cX3_leastDue 22 = .ok (.invokestatic 44, 3) := by decide +kernel
theorem dX3_leastDue_25 : decode cX3_leastDue 25 = .ok (.iastore, 1) := by decide +kernel
theorem dX3_leastDue_26 : decode cX3_leastDue 26 = .ok (.iinc 2 1, 3) := by decide +kernel
theorem dX3_leastDue_29 : decode cX3_leastDue 29 = .ok (.goto (-22), 3) := by decide +kernel
theorem dX3_leastDue_32 : decode cX3_leastDue 32 = .ok (.aload_n 0, 1) := by decide +kernel
theorem dX3_leastDue_33 : decode cX3_leastDue 33 = .ok (.aload_n 1, 1) := by decide +kernel
theorem dX3_leastDue_34 : decode cX3_leastDue 34 = .ok (.invokevirtual 40, 3) := by decide +kernel
theorem dX3_leastDue_37 : decode cX3_leastDue 37 = .ok (.return_, 1) := by decide +kernel
theorem dX3_start_0 : decode cX3_start 0 = .ok (.aload_n 0, 1) := by decide +kernel
theorem dX3_start_1 : decode cX3_start 1 = .ok (.iconst 0, 1) := by decide +kernel
theorem dX3_start_2 : decode cX3_start 2 = .ok (.putfield 9, 3) := by decide +kernel
theorem dX3_start_5 : decode cX3_start 5 = .ok (.aload_n 0, 1) := by decide +kernel
theorem dX3_start_6 : decode cX3_start 6 = .ok (.iconst 0, 1) := by decide +kernel
theorem dX3_start_7 : decode cX3_start 7 = .ok (.putfield 15, 3) := by decide +kernel
theorem dX3_start_10 : decode cX3_start 10 = .ok (.iconst 0, 1) := by decide +kernel
theorem dX3_start_11 : decode cX3_start 11 = .ok (.istore_n 2, 1) := by decide +kernel
theorem dX3_start_12 : decode cX3_start 12 = .ok (.iload_n 2, 1) := by decide +kernel
theorem dX3_start_13 : decode cX3_start 13 = .ok (.bipush 8, 2) := by decide +kernel
theorem dX3_start_15 : decode cX3_start 15 = .ok (.if_icmp .ge 19, 3) := by decide +kernel
theorem dX3_start_18 : decode cX3_start 18 = .ok (.aload_n 0, 1) := by decide +kernel
theorem dX3_start_19 : decode cX3_start 19 = .ok (.getfield 26, 3) := by decide +kernel
theorem dX3_start_22 : decode cX3_start 22 = .ok (.iload_n 2, 1) := by decide +kernel
theorem dX3_start_23 : decode cX3_start 23 = .ok (.aload_n 1, 1) := by decide +kernel
theorem dX3_start_24 : decode cX3_start 24 = .ok (.getfield 48, 3) := by decide +kernel
theorem dX3_start_27 : decode cX3_start 27 = .ok (.iastore, 1) := by decide +kernel
theorem dX3_start_28 : decode cX3_start 28 = .ok (.iinc 2 1, 3) := by decide +kernel
theorem dX3_start_31 : decode cX3_start 31 = .ok (.goto (-19), 3) := by decide +kernel
theorem dX3_start_34 : decode cX3_start 34 = .ok (.aload_n 0, 1) := by decide +kernel
theorem dX3_start_35 : decode cX3_start 35 = .ok (.aload_n 1, 1) := by decide +kernel
theorem dX3_start_36 : decode cX3_start 36 = .ok (.iconst 0, 1) := by decide +kernel
theorem dX3_start_37 : decode cX3_start 37 = .ok (.iconst 0, 1) := by decide +kernel
theorem dX3_start_38 : decode cX3_start 38 = .ok (.invokestatic 51, 3) := by decide +kernel
theorem dX3_start_41 : decode cX3_start 41 = .ok (.return_, 1) := by decide +kernel
theorem dX3_bestAlone_0 : decode cX3_bestAlone 0 = .ok (.iconst 0, 1) := by decide +kernel
theorem dX3_bestAlone_1 : decode cX3_bestAlone 1 = .ok (.istore_n 2, 1) := by decide +kernel
theorem dX3_bestAlone_2 : decode cX3_bestAlone 2 = .ok (.iconst 0, 1) := by decide +kernel
theorem dX3_bestAlone_3 : decode cX3_bestAlone 3 = .ok (.istore_n 3, 1) := by decide +kernel
theorem dX3_bestAlone_4 : decode cX3_bestAlone 4 = .ok (.iload_n 3, 1) := by decide +kernel
theorem dX3_bestAlone_5 : decode cX3_bestAlone 5 = .ok (.bipush 8, 2) := by decide +kernel
theorem dX3_bestAlone_7 : decode cX3_bestAlone 7 = .ok (.if_icmp .ge 34, 3) := by decide +kernel
theorem dX3_bestAlone_10 : decode cX3_bestAlone 10 = .ok (.iload_n 2, 1) := by decide +kernel
theorem dX3_bestAlone_11 : decode cX3_bestAlone 11 = .ok (.aload_n 0, 1) := by decide +kernel
theorem dX3_bestAlone_12 : decode cX3_bestAlone 12 = .ok (.getfield 55, 3) := by decide +kernel
theorem dX3_bestAlone_15 : decode cX3_bestAlone 15 = .ok (.iload_n 1, 1) := by decide +kernel
theorem dX3_bestAlone_16 : decode cX3_bestAlone 16 = .ok (.iaload, 1) := by decide +kernel
theorem dX3_bestAlone_17 : decode cX3_bestAlone 17 = .ok (.aload_n 0, 1) := by decide +kernel
theorem dX3_bestAlone_18 : decode cX3_bestAlone 18 = .ok (.getfield 58, 3) := by decide +kernel
theorem dX3_bestAlone_21 : decode cX3_bestAlone 21 = .ok (.iload_n 1, 1) := by decide +kernel
theorem dX3_bestAlone_22 : decode cX3_bestAlone 22 = .ok (.iaload, 1) := by decide +kernel
theorem dX3_bestAlone_23 : decode cX3_bestAlone 23 = .ok (.iload_n 3, 1) := by decide +kernel
theorem dX3_bestAlone_24 : decode cX3_bestAlone 24 = .ok (.aload_n 0, 1) := by decide +kernel
theorem dX3_bestAlone_25 : decode cX3_bestAlone 25 = .ok (.getfield 48, 3) := by decide +kernel
theorem dX3_bestAlone_28 : decode cX3_bestAlone 28 = .ok (.invokestatic 61, 3) := by decide +kernel
theorem dX3_bestAlone_31 : decode cX3_bestAlone 31 = .ok (.invokestatic 67, 3) := by decide +kernel
theorem dX3_bestAlone_34 : decode cX3_bestAlone 34 = .ok (.istore_n 2, 1) := by decide +kernel
theorem dX3_bestAlone_35 : decode cX3_bestAlone 35 = .ok (.iinc 3 1, 3) := by decide +kernel
theorem dX3_bestAlone_38 : decode cX3_bestAlone 38 = .ok (.goto (-34), 3) := by decide +kernel
theorem dX3_bestAlone_41 : decode cX3_bestAlone 41 = .ok (.iload_n 2, 1) := by decide +kernel
theorem dX3_bestAlone_42 : decode cX3_bestAlone 42 = .ok (.ireturn, 1) := by decide +kernel
theorem dX3_choose_0 : decode cX3_choose 0 = .ok (.iload_n 2, 1) := by decide +kernel
theorem dX3_choose_1 : decode cX3_choose 1 = .ok (.aload_n 1, 1) := by decide +kernel
theorem dX3_choose_2 : decode cX3_choose 2 = .ok (.getfield 35, 3) := by decide +kernel
theorem dX3_choose_5 : decode cX3_choose 5 = .ok (.if_icmp .ge 8, 3) := by decide +kernel
theorem dX3_choose_8 : decode cX3_choose 8 = .ok (.iload_n 2, 1) := by decide +kernel
theorem dX3_choose_9 : decode cX3_choose 9 = .ok (.iconst 5, 1) := by decide +kernel
theorem dX3_choose_10 : decode cX3_choose 10 = .ok (.if_icmp .lt 9, 3) := by decide +kernel
theorem dX3_choose_13 : decode cX3_choose 13 = .ok (.aload_n 0, 1) := by decide +kernel
theorem dX3_choose_14 : decode cX3_choose 14 = .ok (.iload_n 3, 1) := by decide +kernel
theorem dX3_choose_15 : decode cX3_choose 15 = .ok (.invokevirtual 73, 3) := by decide +kernel
theorem dX3_choose_18 : decode cX3_choose 18 = .ok (.return_, 1) := by decide +kernel
theorem dX3_choose_19 : decode cX3_choose 19 = .ok (.iconst 0, 1) := by decide +kernel
theorem dX3_choose_20 : decode cX3_choose 20 = .ok (.istore 4, 2) := by decide +kernel
theorem dX3_choose_22 : decode cX3_choose 22 = .ok (.iload 4, 2) := by decide +kernel
theorem dX3_choose_24 : decode cX3_choose 24 = .ok (.bipush 8, 2) := by decide +kernel
theorem dX3_choose_26 : decode cX3_choose 26 = .ok (.if_icmp .ge 125, 3) := by decide +kernel
theorem dX3_choose_29 : decode cX3_choose 29 = .ok (.aload_n 1, 1) := by decide +kernel
theorem dX3_choose_30 : decode cX3_choose 30 = .ok (.getfield 55, 3) := by decide +kernel
theorem dX3_choose_33 : decode cX3_choose 33 = .ok (.iload_n 2, 1) := by decide +kernel
theorem dX3_choose_34 : decode cX3_choose 34 = .ok (.iaload, 1) := by decide +kernel
theorem dX3_choose_35 : decode cX3_choose 35 = .ok (.aload_n 1, 1) := by decide +kernel
theorem dX3_choose_36 : decode cX3_choose 36 = .ok (.getfield 58, 3) := by decide +kernel
theorem dX3_choose_39 : decode cX3_choose 39 = .ok (.iload_n 2, 1) := by decide +kernel
theorem dX3_choose_40 : decode cX3_choose 40 = .ok (.iaload, 1) := by decide +kernel
theorem dX3_choose_41 : decode cX3_choose 41 = .ok (.iload 4, 2) := by decide +kernel
theorem dX3_choose_43 : decode cX3_choose 43 = .ok (.aload_n 0, 1) := by decide +kernel
theorem dX3_choose_44 : decode cX3_choose 44 = .ok (.getfield 26, 3) := by decide +kernel
theorem dX3_choose_47 : decode cX3_choose 47 = .ok (.iload 4, 2) := by decide +kernel
theorem dX3_choose_49 : decode cX3_choose 49 = .ok (.iaload, 1) := by decide +kernel
theorem dX3_choose_50 : decode cX3_choose 50 = .ok (.invokestatic 61, 3) := by decide +kernel
theorem dX3_choose_53 : decode cX3_choose 53 = .ok (.istore 5, 2) := by decide +kernel
theorem dX3_choose_55 : decode cX3_choose 55 = .ok (.iload 5, 2) := by decide +kernel
theorem dX3_choose_57 : decode cX3_choose 57 = .ok (.aload_n 0, 1) := by decide +kernel
theorem dX3_choose_58 : decode cX3_choose 58 = .ok (.getfield 29, 3) := by decide +kernel
theorem dX3_choose_61 : decode cX3_choose 61 = .ok (.iload_n 2, 1) := by decide +kernel
theorem dX3_choose_62 : decode cX3_choose 62 = .ok (.iaload, 1) := by decide +kernel
theorem dX3_choose_63 : decode cX3_choose 63 = .ok (.if_icmp .lt 82, 3) := by decide +kernel
theorem dX3_choose_66 : decode cX3_choose 66 = .ok (.aload_n 0, 1) := by decide +kernel
theorem dX3_choose_67 : decode cX3_choose 67 = .ok (.iload 4, 2) := by decide +kernel
theorem dX3_choose_69 : decode cX3_choose 69 = .ok (.invokevirtual 77, 3) := by decide +kernel
theorem dX3_choose_72 : decode cX3_choose 72 = .ok (.ifCond .eq 6, 3) := by decide +kernel
theorem dX3_choose_75 : decode cX3_choose 75 = .ok (.goto 70, 3) := by decide +kernel
theorem dX3_choose_78 : decode cX3_choose 78 = .ok (.aload_n 0, 1) := by decide +kernel
theorem dX3_choose_79 : decode cX3_choose 79 = .ok (.getfield 23, 3) := by decide +kernel
theorem dX3_choose_82 : decode cX3_choose 82 = .ok (.iload_n 2, 1) := by decide +kernel
theorem dX3_choose_83 : decode cX3_choose 83 = .ok (.iload 4, 2) := by decide +kernel
theorem dX3_choose_85 : decode cX3_choose 85 = .ok (.iastore, 1) := by decide +kernel
theorem dX3_choose_86 : decode cX3_choose 86 = .ok (.aload_n 0, 1) := by decide +kernel
theorem dX3_choose_87 : decode cX3_choose 87 = .ok (.getfield 26, 3) := by decide +kernel
theorem dX3_choose_90 : decode cX3_choose 90 = .ok (.iload 4, 2) := by decide +kernel
theorem dX3_choose_92 : decode cX3_choose 92 = .ok (.dup2, 1) := by decide +kernel
theorem dX3_choose_93 : decode cX3_choose 93 = .ok (.iaload, 1) := by decide +kernel
theorem dX3_choose_94 : decode cX3_choose 94 = .ok (.iload 5, 2) := by decide +kernel
theorem dX3_choose_96 : decode cX3_choose 96 = .ok (.isub, 1) := by decide +kernel
theorem dX3_choose_97 : decode cX3_choose 97 = .ok (.iastore, 1) := by decide +kernel
theorem dX3_choose_98 : decode cX3_choose 98 = .ok (.aload_n 0, 1) := by decide +kernel
theorem dX3_choose_99 : decode cX3_choose 99 = .ok (.aload_n 1, 1) := by decide +kernel
theorem dX3_choose_100 : decode cX3_choose 100 = .ok (.iload_n 2, 1) := by decide +kernel
theorem dX3_choose_101 : decode cX3_choose 101 = .ok (.iconst 1, 1) := by decide +kernel
theorem dX3_choose_102 : decode cX3_choose 102 = .ok (.iadd, 1) := by decide +kernel
theorem dX3_choose_103 : decode cX3_choose 103 = .ok (.aload_n 0, 1) := by decide +kernel
theorem dX3_choose_104 : decode cX3_choose 104 = .ok (.getfield 32, 3) := by decide +kernel
theorem dX3_choose_107 : decode cX3_choose 107 = .ok (.ifCond .eq 19, 3) := by decide +kernel
theorem dX3_choose_110 : decode cX3_choose 110 = .ok (.iload_n 3, 1) := by decide +kernel
theorem dX3_choose_111 : decode cX3_choose 111 = .ok (.aload_n 1, 1) := by decide +kernel
theorem dX3_choose_112 : decode cX3_choose 112 = .ok (.getfield 55, 3) := by decide +kernel
theorem dX3_choose_115 : decode cX3_choose 115 = .ok (.iload_n 2, 1) := by decide +kernel
theorem dX3_choose_116 : decode cX3_choose 116 = .ok (.iaload, 1) := by decide +kernel
theorem dX3_choose_117 : decode cX3_choose 117 = .ok (.iload 5, 2) := by decide +kernel
theorem dX3_choose_119 : decode cX3_choose 119 = .ok (.invokestatic 81, 3) := by decide +kernel
theorem dX3_choose_122 : decode cX3_choose 122 = .ok (.isub, 1) := by decide +kernel
theorem dX3_choose_123 : decode cX3_choose 123 = .ok (.goto 7, 3) := by decide +kernel
theorem dX3_choose_126 : decode cX3_choose 126 = .ok (.iload_n 3, 1) := by decide +kernel
theorem dX3_choose_127 : decode cX3_choose 127 = .ok (.iload 5, 2) := by decide +kernel
theorem dX3_choose_129 : decode cX3_choose 129 = .ok (.iadd, 1) := by decide +kernel
theorem dX3_choose_130 : decode cX3_choose 130 = .ok (.invokestatic 51, 3) := by decide +kernel
theorem dX3_choose_133 : decode cX3_choose 133 = .ok (.aload_n 0, 1) := by decide +kernel
theorem dX3_choose_134 : decode cX3_choose 134 = .ok (.getfield 26, 3) := by decide +kernel
theorem dX3_choose_137 : decode cX3_choose 137 = .ok (.iload 4, 2) := by decide +kernel
theorem dX3_choose_139 : decode cX3_choose 139 = .ok (.dup2, 1) := by decide +kernel
theorem dX3_choose_140 : decode cX3_choose 140 = .ok (.iaload, 1) := by decide +kernel
theorem dX3_choose_141 : decode cX3_choose 141 = .ok (.iload 5, 2) := by decide +kernel
theorem dX3_choose_143 : decode cX3_choose 143 = .ok (.iadd, 1) := by decide +kernel
theorem dX3_choose_144 : decode cX3_choose 144 = .ok (.iastore, 1) := by decide +kernel
theorem dX3_choose_145 : decode cX3_choose 145 = .ok (.iinc 4 1, 3) := by decide +kernel
theorem dX3_choose_148 : decode cX3_choose 148 = .ok (.goto (-126), 3) := by decide +kernel
theorem dX3_choose_151 : decode cX3_choose 151 = .ok (.return_, 1) := by decide +kernel
theorem dX3_isLikeAnEarlierOne_0 : decode cX3_isLikeAnEarlierOne 0 = .ok (.iload_n 1, 1) := by decide +kernel
theorem dX3_isLikeAnEarlierOne_1 : decode cX3_isLikeAnEarlierOne 1 = .ok (.iconst 2, 1) := by decide +kernel
theorem dX3_isLikeAnEarlierOne_2 : decode cX3_isLikeAnEarlierOne 2 = .ok (.isub, 1) := by decide +kernel
theorem dX3_isLikeAnEarlierOne_3 : decode cX3_isLikeAnEarlierOne 3 = .ok (.istore_n 2, 1) := by decide +kernel
theorem dX3_isLikeAnEarlierOne_4 : decode cX3_isLikeAnEarlierOne 4 = .ok (.iload_n 2, 1) := by decide +kernel
theorem dX3_isLikeAnEarlierOne_5 : decode cX3_isLikeAnEarlierOne 5 = .ok (.ifCond .lt 26, 3) := by decide +kernel
theorem dX3_isLikeAnEarlierOne_8 : decode cX3_isLikeAnEarlierOne 8 = .ok (.aload_n 0, 1) := by decide +kernel
theorem dX3_isLikeAnEarlierOne_9 : decode cX3_isLikeAnEarlierOne 9 = .ok (.getfield 26, 3) := by decide +kernel
theorem dX3_isLikeAnEarlierOne_12 : decode cX3_isLikeAnEarlierOne 12 = .ok (.iload_n 2, 1) := by decide +kernel
theorem dX3_isLikeAnEarlierOne_13 : decode cX3_isLikeAnEarlierOne 13 = .ok (.iaload, 1) := by decide +kernel
theorem dX3_isLikeAnEarlierOne_14 : decode cX3_isLikeAnEarlierOne 14 = .ok (.aload_n 0, 1) := by decide +kernel
theorem dX3_isLikeAnEarlierOne_15 : decode cX3_isLikeAnEarlierOne 15 = .ok (.getfield 26, 3) := by decide +kernel
theorem dX3_isLikeAnEarlierOne_18 : decode cX3_isLikeAnEarlierOne 18 = .ok (.iload_n 1, 1) := by decide +kernel
theorem dX3_isLikeAnEarlierOne_19 : decode cX3_isLikeAnEarlierOne 19 = .ok (.iaload, 1) := by decide +kernel
theorem dX3_isLikeAnEarlierOne_20 : decode cX3_isLikeAnEarlierOne 20 = .ok (.if_icmp .ne 5, 3) := by decide +kernel
theorem dX3_isLikeAnEarlierOne_23 : decode cX3_isLikeAnEarlierOne 23 = .ok (.iconst 1, 1) := by decide +kernel
theorem dX3_isLikeAnEarlierOne_24 : decode cX3_isLikeAnEarlierOne 24 = .ok (.ireturn, 1) := by decide +kernel
theorem dX3_isLikeAnEarlierOne_25 : decode cX3_isLikeAnEarlierOne 25 = .ok (.iinc 2 (-2), 3) := by decide +kernel
theorem dX3_isLikeAnEarlierOne_28 : decode cX3_isLikeAnEarlierOne 28 = .ok (.goto (-24), 3) := by decide +kernel
theorem dX3_isLikeAnEarlierOne_31 : decode cX3_isLikeAnEarlierOne 31 = .ok (.iconst 0, 1) := by decide +kernel
theorem dX3_isLikeAnEarlierOne_32 : decode cX3_isLikeAnEarlierOne 32 = .ok (.ireturn, 1) := by decide +kernel
theorem dX3_keepIfBetter_0 : decode cX3_keepIfBetter 0 = .ok (.aload_n 0, 1) := by decide +kernel
theorem dX3_keepIfBetter_1 : decode cX3_keepIfBetter 1 = .ok (.getfield 9, 3) := by decide +kernel
theorem dX3_keepIfBetter_4 : decode cX3_keepIfBetter 4 = .ok (.ifCond .eq 12, 3) := by decide +kernel
theorem dX3_keepIfBetter_7 : decode cX3_keepIfBetter 7 = .ok (.iload_n 1, 1) := by decide +kernel
theorem dX3_keepIfBetter_8 : decode cX3_keepIfBetter 8 = .ok (.aload_n 0, 1) := by decide +kernel
theorem dX3_keepIfBetter_9 : decode cX3_keepIfBetter 9 = .ok (.getfield 15, 3) := by decide +kernel
theorem dX3_keepIfBetter_12 : decode cX3_keepIfBetter 12 = .ok (.if_icmp .gt 4, 3) := by decide +kernel
theorem dX3_keepIfBetter_15 : decode cX3_keepIfBetter 15 = .ok (.return_, 1) := by decide +kernel
theorem dX3_keepIfBetter_16 : decode cX3_keepIfBetter 16 = .ok (.aload_n 0, 1) := by decide +kernel
theorem dX3_keepIfBetter_17 : decode cX3_keepIfBetter 17 = .ok (.iconst 1, 1) := by decide +kernel
theorem dX3_keepIfBetter_18 : decode cX3_keepIfBetter 18 = .ok (.putfield 9, 3) := by decide +kernel
theorem dX3_keepIfBetter_21 : decode cX3_keepIfBetter 21 = .ok (.aload_n 0, 1) := by decide +kernel
theorem dX3_keepIfBetter_22 : decode cX3_keepIfBetter 22 = .ok (.iload_n 1, 1) := by decide +kernel
theorem dX3_keepIfBetter_23 : decode cX3_keepIfBetter 23 = .ok (.putfield 15, 3) := by decide +kernel
theorem dX3_keepIfBetter_26 : decode cX3_keepIfBetter 26 = .ok (.aload_n 0, 1) := by decide +kernel
theorem dX3_keepIfBetter_27 : decode cX3_keepIfBetter 27 = .ok (.getfield 23, 3) := by decide +kernel
theorem dX3_keepIfBetter_30 : decode cX3_keepIfBetter 30 = .ok (.iconst 0, 1) := by decide +kernel
theorem dX3_keepIfBetter_31 : decode cX3_keepIfBetter 31 = .ok (.aload_n 0, 1) := by decide +kernel
theorem dX3_keepIfBetter_32 : decode cX3_keepIfBetter 32 = .ok (.getfield 19, 3) := by decide +kernel
theorem dX3_keepIfBetter_35 : decode cX3_keepIfBetter 35 = .ok (.iconst 0, 1) := by decide +kernel
theorem dX3_keepIfBetter_36 : decode cX3_keepIfBetter 36 = .ok (.iconst 5, 1) := by decide +kernel
theorem dX3_keepIfBetter_37 : decode cX3_keepIfBetter 37 = .ok (.invokestatic 84, 3) := by decide +kernel
theorem dX3_keepIfBetter_40 : decode cX3_keepIfBetter 40 = .ok (.return_, 1) := by decide +kernel
theorem dX4_init_0 : decode cX4_init 0 = .ok (.aload_n 0, 1) := by decide +kernel
theorem dX4_init_1 : decode cX4_init 1 = .ok (.invokespecial 3, 3) := by decide +kernel
theorem dX4_init_4 : decode cX4_init 4 = .ok (.aload_n 0, 1) := by decide +kernel
theorem dX4_init_5 : decode cX4_init 5 = .ok (.new 9, 3) := by decide +kernel
theorem dX4_init_8 : decode cX4_init 8 = .ok (.dup, 1) := by decide +kernel
theorem dX4_init_9 : decode cX4_init 9 = .ok (.invokespecial 11, 3) := by decide +kernel
theorem dX4_init_12 : decode cX4_init 12 = .ok (.putfield 12, 3) := by decide +kernel
theorem dX4_init_15 : decode cX4_init 15 = .ok (.aload_n 0, 1) := by decide +kernel
theorem dX4_init_16 : decode cX4_init 16 = .ok (.iconst 2, 1) := by decide +kernel
theorem dX4_init_17 : decode cX4_init 17 = .ok (.anewarray 9, 3) := by decide +kernel
theorem dX4_init_20 : decode cX4_init 20 = .ok (.putfield 16, 3) := by decide +kernel
theorem dX4_init_23 : decode cX4_init 23 = .ok (.aload_n 0, 1) := by decide +kernel
theorem dX4_init_24 : decode cX4_init 24 = .ok (.new 20, 3) := by decide +kernel
theorem dX4_init_27 : decode cX4_init 27 = .ok (.dup, 1) := by decide +kernel
theorem dX4_init_28 : decode cX4_init 28 = .ok (.invokespecial 22, 3) := by decide +kernel
theorem dX4_init_31 : decode cX4_init 31 = .ok (.putfield 23, 3) := by decide +kernel
theorem dX4_init_34 : decode cX4_init 34 = .ok (.aload_n 0, 1) := by decide +kernel
theorem dX4_init_35 : decode cX4_init 35 = .ok (.new 27, 3) := by decide +kernel
theorem dX4_init_38 : decode cX4_init 38 = .ok (.dup, 1) := by decide +kernel
theorem dX4_init_39 : decode cX4_init 39 = .ok (.invokespecial 29, 3) := by decide +kernel
theorem dX4_init_42 : decode cX4_init 42 = .ok (.putfield 30, 3) := by decide +kernel
theorem dX4_init_45 : decode cX4_init 45 = .ok (.aload_n 0, 1) := by decide +kernel
theorem dX4_init_46 : decode cX4_init 46 = .ok (.iconst 0, 1) := by decide +kernel
theorem dX4_init_47 : decode cX4_init 47 = .ok (.putfield 34, 3) := by decide +kernel
theorem dX4_init_50 : decode cX4_init 50 = .ok (.aload_n 0, 1) := by decide +kernel
theorem dX4_init_51 : decode cX4_init 51 = .ok (.iconst 1, 1) := by decide +kernel
theorem dX4_init_52 : decode cX4_init 52 = .ok (.putfield 38, 3) := by decide +kernel
theorem dX4_init_55 : decode cX4_init 55 = .ok (.aload_n 0, 1) := by decide +kernel
theorem dX4_init_56 : decode cX4_init 56 = .ok (.iconst 0, 1) := by decide +kernel
theorem dX4_init_57 : decode cX4_init 57 = .ok (.putfield 41, 3) := by decide +kernel
theorem dX4_init_60 : decode cX4_init 60 = .ok (.aload_n 0, 1) := by decide +kernel
theorem dX4_init_61 : decode cX4_init 61 = .ok (.iconst 0, 1) := by decide +kernel
theorem dX4_init_62 : decode cX4_init 62 = .ok (.putfield 44, 3) := by decide +kernel
theorem dX4_init_65 : decode cX4_init 65 = .ok (.aload_n 0, 1) := by decide +kernel
theorem dX4_init_66 : decode cX4_init 66 = .ok (.iconst 0, 1) := by decide +kernel
theorem dX4_init_67 : decode cX4_init 67 = .ok (.putfield 47, 3) := by decide +kernel
theorem dX4_init_70 : decode cX4_init 70 = .ok (.return_, 1) := by decide +kernel
theorem dX4_board_0 : decode cX4_board 0 = .ok (.iload_n 1, 1) := by decide +kernel
theorem dX4_board_1 : decode cX4_board 1 = .ok (.invokestatic 50, 3) := by decide +kernel
theorem dX4_board_4 : decode cX4_board 4 = .ok (.ifCond .ne 8, 3) := by decide +kernel
theorem dX4_board_7 : decode cX4_board 7 = .ok (.aload_n 0, 1) := by decide +kernel
theorem dX4_board_8 : decode cX4_board 8 = .ok (.invokevirtual 54, 3) := by decide +kernel
theorem dX4_board_11 : decode cX4_board 11 = .ok (.ireturn, 1) := by decide +kernel
theorem dX4_board_12 : decode cX4_board 12 = .ok (.aload_n 0, 1) := by decide +kernel
theorem dX4_board_13 : decode cX4_board 13 = .ok (.getfield 12, 3) := by decide +kernel
theorem dX4_board_16 : decode cX4_board 16 = .ok (.getfield 58, 3) := by decide +kernel
theorem dX4_board_19 : decode cX4_board 19 = .ok (.istore_n 2, 1) := by decide +kernel
theorem dX4_board_20 : decode cX4_board 20 = .ok (.aload_n 0, 1) := by decide +kernel
theorem dX4_board_21 : decode cX4_board 21 = .ok (.getfield 12, 3) := by decide +kernel
theorem dX4_board_24 : decode cX4_board 24 = .ok (.iload_n 1, 1) := by decide +kernel
theorem dX4_board_25 : decode cX4_board 25 = .ok (.invokevirtual 61, 3) := by decide +kernel
theorem dX4_board_28 : decode cX4_board 28 = .ok (.iload_n 2, 1) := by decide +kernel
theorem dX4_board_29 : decode cX4_board 29 = .ok (.ireturn, 1) := by decide +kernel
theorem dX4_well_0 : decode cX4_well 0 = .ok (.iload_n 1, 1) := by decide +kernel
theorem dX4_well_1 : decode cX4_well 1 = .ok (.iconst 0, 1) := by decide +kernel
theorem dX4_well_2 : decode cX4_well 2 = .ok (.iconst 5, 1) := by decide +kernel
theorem dX4_well_3 : decode cX4_well 3 = .ok (.invokestatic 65, 3) := by decide +kernel
theorem dX4_well_6 : decode cX4_well 6 = .ok (.ifCond .eq 21, 3) := by decide +kernel
theorem dX4_well_9 : decode cX4_well 9 = .ok (.iload_n 2, 1) := by decide +kernel
theorem dX4_well_10 : decode cX4_well 10 = .ok (.invokestatic 69, 3) := by decide +kernel
theorem dX4_well_13 : decode cX4_well 13 = .ok (.ifCond .eq 14, 3) := by decide +kernel
theorem dX4_well_16 : decode cX4_well 16 = .ok (.iload_n 3, 1) := by decide +kernel
theorem dX4_well_17 : decode cX4_well 17 = .ok (.iconst 0, 1) := by decide +kernel
theorem dX4_well_18 : decode cX4_well 18 = .ok (.sipush 255, 3) := by decide +kernel
theorem dX4_well_21 : decode cX4_well 21 = .ok (.invokestatic 65, 3) := by decide +kernel
theorem dX4_well_24 : decode cX4_well 24 = .ok (.ifCond .ne 8, 3) := by decide +kernel
theorem dX4_well_27 : decode cX4_well 27 = .ok (.aload_n 0, 1) := by decide +kernel
theorem dX4_well_28 : decode cX4_well 28 = .ok (.invokevirtual 54, 3) := by decide +kernel
theorem dX4_well_31 : decode cX4_well 31 = .ok (.ireturn, 1) := by decide +kernel
theorem dX4_well_32 : decode cX4_well 32 = .ok (.aload_n 0, 1) := by decide +kernel
theorem dX4_well_33 : decode cX4_well 33 = .ok (.getfield 12, 3) := by decide +kernel
theorem dX4_well_36 : decode cX4_well 36 = .ok (.getfield 58, 3) := by decide +kernel
theorem dX4_well_39 : decode cX4_well 39 = .ok (.iconst 5, 1) := by decide +kernel
theorem dX4_well_40 : decode cX4_well 40 = .ok (.if_icmp .lt 8, 3) := by decide +kernel
theorem dX4_well_43 : decode cX4_well 43 = .ok (.aload_n 0, 1) := by decide +kernel
theorem dX4_well_44 : decode cX4_well 44 = .ok (.invokevirtual 72, 3) := by decide +kernel
theorem dX4_well_47 : decode cX4_well 47 = .ok (.ireturn, 1) := by decide +kernel
theorem dX4_well_48 : decode cX4_well 48 = .ok (.aload_n 0, 1) := by decide +kernel
theorem dX4_well_49 : decode cX4_well 49 = .ok (.getfield 12, 3) := by decide +kernel
theorem dX4_well_52 : decode cX4_well 52 = .ok (.iload_n 1, 1) := by decide +kernel
theorem dX4_well_53 : decode cX4_well 53 = .ok (.iload_n 2, 1) := by decide +kernel
theorem dX4_well_54 : decode cX4_well 54 = .ok (.iload_n 3, 1) := by decide +kernel
theorem dX4_well_55 : decode cX4_well 55 = .ok (.invokevirtual 75, 3) := by decide +kernel
theorem dX4_well_58 : decode cX4_well 58 = .ok (.ireturn, 1) := by decide +kernel
theorem dX4_type_0 : decode cX4_type 0 = .ok (.iload_n 1, 1) := by decide +kernel
theorem dX4_type_1 : decode cX4_type 1 = .ok (.iconst 0, 1) := by decide +kernel
theorem dX4_type_2 : decode cX4_type 2 = .ok (.bipush 127, 2) := by decide +kernel
theorem dX4_type_4 : decode cX4_type 4 = .ok (.invokestatic 65, 3) := by decide +kernel
theorem dX4_type_7 : decode cX4_type 7 = .ok (.ifCond .ne 8, 3) := by decide +kernel
theorem dX4_type_10 : decode cX4_type 10 = .ok (.aload_n 0, 1) := by decide +kernel
theorem dX4_type_11 : decode cX4_type 11 = .ok (.invokevirtual 54, 3) := by decide +kernel
theorem dX4_type_14 : decode cX4_type 14 = .ok (.ireturn, 1) := by decide +kernel
theorem dX4_type_15 : decode cX4_type 15 = .ok (.aload_n 0, 1) := by decide +kernel
theorem dX4_type_16 : decode cX4_type 16 = .ok (.getfield 30, 3) := by decide +kernel
theorem dX4_type_19 : decode cX4_type 19 = .ok (.getfield 79, 3) := by decide +kernel
theorem dX4_type_22 : decode cX4_type 22 = .ok (.sipush 150, 3) := by decide +kernel
theorem dX4_type_25 : decode cX4_type 25 = .ok (.if_icmp .lt 8, 3) := by decide +kernel
theorem dX4_type_28 : decode cX4_type 28 = .ok (.aload_n 0, 1) := by decide +kernel
theorem dX4_type_29 : decode cX4_type 29 = .ok (.invokevirtual 72, 3) := by decide +kernel
theorem dX4_type_32 : decode cX4_type 32 = .ok (.ireturn, 1) := by decide +kernel
theorem dX4_type_33 : decode cX4_type 33 = .ok (.aload_n 0, 1) := by decide +kernel
theorem dX4_type_34 : decode cX4_type 34 = .ok (.getfield 30, 3) := by decide +kernel
theorem dX4_type_37 : decode cX4_type 37 = .ok (.iload_n 1, 1) := by decide +kernel
theorem dX4_type_38 : decode cX4_type 38 = .ok (.invokevirtual 82, 3) := by decide +kernel
theorem dX4_type_41 : decode cX4_type 41 = .ok (.ireturn, 1) := by decide +kernel
theorem dX4_clear_0 : decode cX4_clear 0 = .ok (.aload_n 0, 1) := by decide +kernel
theorem dX4_clear_1 : decode cX4_clear 1 = .ok (.getfield 30, 3) := by decide +kernel
theorem dX4_clear_4 : decode cX4_clear 4 = .ok (.getfield 79, 3) := by decide +kernel
theorem dX4_clear_7 : decode cX4_clear 7 = .ok (.istore_n 1, 1) := by decide +kernel
theorem dX4_clear_8 : decode cX4_clear 8 = .ok (.aload_n 0, 1) := by decide +kernel
theorem dX4_clear_9 : decode cX4_clear 9 = .ok (.getfield 30, 3) := by decide +kernel
theorem dX4_clear_12 : decode cX4_clear 12 = .ok (.iconst 0, 1) := by decide +kernel
theorem dX4_clear_13 : decode cX4_clear 13 = .ok (.putfield 79, 3) := by decide +kernel
theorem dX4_clear_16 : decode cX4_clear 16 = .ok (.iload_n 1, 1) := by decide +kernel
theorem dX4_clear_17 : decode cX4_clear 17 = .ok (.ireturn, 1) := by decide +kernel
theorem dX4_read_0 : decode cX4_read 0 = .ok (.aload_n 0, 1) := by decide +kernel
theorem dX4_read_1 : decode cX4_read 1 = .ok (.getfield 30, 3) := by decide +kernel
theorem dX4_read_4 : decode cX4_read 4 = .ok (.invokevirtual 86, 3) := by decide +kernel
theorem dX4_read_7 : decode cX4_read 7 = .ok (.istore_n 1, 1) := by decide +kernel
theorem dX4_read_8 : decode cX4_read 8 = .ok (.iload_n 1, 1) := by decide +kernel
theorem dX4_read_9 : decode cX4_read 9 = .ok (.iconst (-1), 1) := by decide +kernel
theorem dX4_read_10 : decode cX4_read 10 = .ok (.if_icmp .ne 14, 3) := by decide +kernel
theorem dX4_read_13 : decode cX4_read 13 = .ok (.bipush (-10), 2) := by decide +kernel
theorem dX4_read_15 : decode cX4_read 15 = .ok (.aload_n 0, 1) := by decide +kernel
theorem dX4_read_16 : decode cX4_read 16 = .ok (.getfield 30, 3) := by decide +kernel
theorem dX4_read_19 : decode cX4_read 19 = .ok (.getfield 89, 3) := by decide +kernel
theorem dX4_read_22 : decode cX4_read 22 = .ok (.isub, 1) := by decide +kernel
theorem dX4_read_23 : decode cX4_read 23 = .ok (.ireturn, 1) := by decide +kernel
theorem dX4_read_24 : decode cX4_read 24 = .ok (.aload_n 0, 1) := by decide +kernel
theorem dX4_read_25 : decode cX4_read 25 = .ok (.getfield 12, 3) := by decide +kernel
theorem dX4_read_28 : decode cX4_read 28 = .ok (.aload_n 0, 1) := by decide +kernel
theorem dX4_read_29 : decode cX4_read 29 = .ok (.getfield 30, 3) := by decide +kernel
theorem dX4_read_32 : decode cX4_read 32 = .ok (.getfield 92, 3) := by decide +kernel
theorem dX4_read_35 : decode cX4_read 35 = .ok (.invokevirtual 95, 3) := by decide +kernel
theorem dX4_read_38 : decode cX4_read 38 = .ok (.iload_n 1, 1) := by decide +kernel
theorem dX4_read_39 : decode cX4_read 39 = .ok (.ireturn, 1) := by decide +kernel
theorem dX4_day_0 : decode cX4_day 0 = .ok (.iload_n 1, 1) := by decide +kernel
theorem dX4_day_1 : decode cX4_day 1 = .ok (.iconst 1, 1) := by decide +kernel
theorem dX4_day_2 : decode cX4_day 2 = .ok (.bipush 30, 2) := by decide +kernel
theorem dX4_day_4 : decode cX4_day 4 = .ok (.invokestatic 65, 3) := by decide +kernel
theorem dX4_day_7 : decode cX4_day 7 = .ok (.ifCond .ne 8, 3) := by decide +kernel
theorem dX4_day_10 : decode cX4_day 10 = .ok (.aload_n 0, 1) := by decide +kernel
theorem dX4_day_11 : decode cX4_day 11 = .ok (.invokevirtual 54, 3) := by decide +kernel
theorem dX4_day_14 : decode cX4_day 14 = .ok (.ireturn, 1) := by decide +kernel
theorem dX4_day_15 : decode cX4_day 15 = .ok (.aload_n 0, 1) := by decide +kernel
theorem dX4_day_16 : decode cX4_day 16 = .ok (.getfield 12, 3) := by decide +kernel
theorem dX4_day_19 : decode cX4_day 19 = .ok (.invokevirtual 99, 3) := by decide +kernel
theorem dX4_day_22 : decode cX4_day 22 = .ok (.iconst 0, 1) := by decide +kernel
theorem dX4_day_23 : decode cX4_day 23 = .ok (.istore_n 2, 1) := by decide +kernel
theorem dX4_day_24 : decode cX4_day 24 = .ok (.iconst 0, 1) := by decide +kernel
theorem dX4_day_25 : decode cX4_day 25 = .ok (.istore_n 3, 1) := by decide +kernel
theorem dX4_day_26 : decode cX4_day 26 = .ok (.iload_n 3, 1) := by decide +kernel
theorem dX4_day_27 : decode cX4_day 27 = .ok (.iload_n 1, 1) := by decide +kernel
theorem dX4_day_28 : decode cX4_day 28 = .ok (.if_icmp .ge 19, 3) := by decide +kernel
theorem dX4_day_31 : decode cX4_day 31 = .ok (.iload_n 2, 1) := by decide +kernel
theorem dX4_day_32 : decode cX4_day 32 = .ok (.aload_n 0, 1) := by decide +kernel
theorem dX4_day_33 : decode cX4_day 33 = .ok (.getfield 12, 3) := by decide +kernel
theorem dX4_day_36 : decode cX4_day 36 = .ok (.invokevirtual 102, 3) := by decide +kernel
theorem dX4_day_39 : decode cX4_day 39 = .ok (.iadd, 1) := by decide +kernel
theorem dX4_day_40 : decode cX4_day 40 = .ok (.istore_n 2, 1) := by decide +kernel
theorem dX4_day_41 : decode cX4_day 41 = .ok (.iinc 3 1, 3) := by decide +kernel
theorem dX4_day_44 : decode cX4_day 44 = .ok (.goto (-18), 3) := by decide +kernel
theorem dX4_day_47 : decode cX4_day 47 = .ok (.iload_n 2, 1) := by decide +kernel
theorem dX4_day_48 : decode cX4_day 48 = .ok (.ireturn, 1) := by decide +kernel
theorem dX4_turn_0 : decode cX4_turn 0 = .ok (.aload_n 0, 1) := by decide +kernel
theorem dX4_turn_1 : decode cX4_turn 1 = .ok (.getfield 12, 3) := by decide +kernel
theorem dX4_turn_4 : decode cX4_turn 4 = .ok (.iload_n 1, 1) := by decide +kernel
theorem dX4_turn_5 : decode cX4_turn 5 = .ok (.invokevirtual 105, 3) := by decide +kernel
theorem dX4_turn_8 : decode cX4_turn 8 = .ok (.ifCond .eq 14, 3) := by decide +kernel
theorem dX4_turn_11 : decode cX4_turn 11 = .ok (.iload_n 2, 1) := by decide +kernel
theorem dX4_turn_12 : decode cX4_turn 12 = .ok (.iconst 0, 1) := by decide +kernel
theorem dX4_turn_13 : decode cX4_turn 13 = .ok (.sipush 255, 3) := by decide +kernel
theorem dX4_turn_16 : decode cX4_turn 16 = .ok (.invokestatic 65, 3) := by decide +kernel
theorem dX4_turn_19 : decode cX4_turn 19 = .ok (.ifCond .ne 8, 3) := by decide +kernel
theorem dX4_turn_22 : decode cX4_turn 22 = .ok (.aload_n 0, 1) := by decide +kernel
theorem dX4_turn_23 : decode cX4_turn 23 = .ok (.invokevirtual 54, 3) := by decide +kernel
theorem dX4_turn_26 : decode cX4_turn 26 = .ok (.ireturn, 1) := by decide +kernel
theorem dX4_turn_27 : decode cX4_turn 27 = .ok (.aload_n 0, 1) := by decide +kernel
theorem dX4_turn_28 : decode cX4_turn 28 = .ok (.getfield 12, 3) := by decide +kernel
theorem dX4_turn_31 : decode cX4_turn 31 = .ok (.invokevirtual 99, 3) := by decide +kernel
theorem dX4_turn_34 : decode cX4_turn 34 = .ok (.aload_n 0, 1) := by decide +kernel
theorem dX4_turn_35 : decode cX4_turn 35 = .ok (.getfield 12, 3) := by decide +kernel
theorem dX4_turn_38 : decode cX4_turn 38 = .ok (.getfield 108, 3) := by decide +kernel
theorem dX4_turn_41 : decode cX4_turn 41 = .ok (.iload_n 1, 1) := by decide +kernel
theorem dX4_turn_42 : decode cX4_turn 42 = .ok (.iaload, 1) := by decide +kernel
theorem dX4_turn_43 : decode cX4_turn 43 = .ok (.istore_n 3, 1) := by decide +kernel
theorem dX4_turn_44 : decode cX4_turn 44 = .ok (.aload_n 0, 1) := by decide +kernel
theorem dX4_turn_45 : decode cX4_turn 45 = .ok (.getfield 12, 3) := by decide +kernel
theorem dX4_turn_48 : decode cX4_turn 48 = .ok (.getfield 108, 3) := by decide +kernel
theorem dX4_turn_51 : decode cX4_turn 51 = .ok (.iload_n 1, 1) := by decide +kernel
theorem dX4_turn_52 : decode cX4_turn 52 = .ok (.iload_n 2, 1) := by decide +kernel
theorem dX4_turn_53 : decode cX4_turn 53 = .ok (.iastore, 1) := by decide +kernel
theorem dX4_turn_54 : decode cX4_turn 54 = .ok (.iload_n 3, 1) := by decide +kernel
theorem dX4_turn_55 : decode cX4_turn 55 = .ok (.ireturn, 1) := by decide +kernel
theorem dX4_want_0 : decode cX4_want 0 = .ok (.aload_n 0, 1) := by decide +kernel
theorem dX4_want_1 : decode cX4_want 1 = .ok (.getfield 12, 3) := by decide +kernel
theorem dX4_want_4 : decode cX4_want 4 = .ok (.iload_n 1, 1) := by decide +kernel
theorem dX4_want_5 : decode cX4_want 5 = .ok (.invokevirtual 105, 3) := by decide +kernel
theorem dX4_want_8 : decode cX4_want 8 = .ok (.ifCond .eq 10, 3) := by decide +kernel
theorem dX4_want_11 : decode cX4_want 11 = .ok (.iload_n 2, 1) := by decide +kernel
theorem dX4_want_12 : decode cX4_want 12 = .ok (.invokestatic 69, 3) := by decide +kernel
theorem dX4_want_15 : decode cX4_want 15 = .ok (.ifCond .ne 8, 3) := by decide +kernel
theorem dX4_want_18 : decode cX4_want 18 = .ok (.aload_n 0, 1) := by decide +kernel
theorem dX4_want_19 : decode cX4_want 19 = .ok (.invokevirtual 54, 3) := by decide +kernel
theorem dX4_want_22 : decode cX4_want 22 = .ok (.ireturn, 1) := by decide +kernel
theorem dX4_want_23 : decode cX4_want 23 = .ok (.aload_n 0, 1) := by decide +kernel
theorem dX4_want_24 : decode cX4_want 24 = .ok (.getfield 12, 3) := by decide +kernel
theorem dX4_want_27 : decode cX4_want 27 = .ok (.invokevirtual 99, 3) := by decide +kernel
theorem dX4_want_30 : decode cX4_want 30 = .ok (.aload_n 0, 1) := by decide +kernel
theorem dX4_want_31 : decode cX4_want 31 = .ok (.getfield 12, 3) := by decide +kernel
theorem dX4_want_34 : decode cX4_want 34 = .ok (.getfield 112, 3) := by decide +kernel
theorem dX4_want_37 : decode cX4_want 37 = .ok (.iload_n 1, 1) := by decide +kernel
theorem dX4_want_38 : decode cX4_want 38 = .ok (.iaload, 1) := by decide +kernel
theorem dX4_want_39 : decode cX4_want 39 = .ok (.istore_n 3, 1) := by decide +kernel
theorem dX4_want_40 : decode cX4_want 40 = .ok (.aload_n 0, 1) := by decide +kernel
theorem dX4_want_41 : decode cX4_want 41 = .ok (.getfield 12, 3) := by decide +kernel
theorem dX4_want_44 : decode cX4_want 44 = .ok (.getfield 112, 3) := by decide +kernel
theorem dX4_want_47 : decode cX4_want 47 = .ok (.iload_n 1, 1) := by decide +kernel
theorem dX4_want_48 : decode cX4_want 48 = .ok (.iload_n 2, 1) := by decide +kernel
theorem dX4_want_49 : decode cX4_want 49 = .ok (.iastore, 1) := by decide +kernel
theorem dX4_want_50 : decode cX4_want 50 = .ok (.iload_n 3, 1) := by decide +kernel
theorem dX4_want_51 : decode cX4_want 51 = .ok (.ireturn, 1) := by decide +kernel
theorem dX4_press_0 : decode cX4_press 0 = .ok (.iload_n 1, 1) := by decide +kernel
theorem dX4_press_1 : decode cX4_press 1 = .ok (.invokestatic 50, 3) := by decide +kernel
theorem dX4_press_4 : decode cX4_press 4 = .ok (.ifCond .ne 8, 3) := by decide +kernel
theorem dX4_press_7 : decode cX4_press 7 = .ok (.aload_n 0, 1) := by decide +kernel
theorem dX4_press_8 : decode cX4_press 8 = .ok (.invokevirtual 54, 3) := by decide +kernel
theorem dX4_press_11 : decode cX4_press 11 = .ok (.ireturn, 1) := by decide +kernel
theorem dX4_press_12 : decode cX4_press 12 = .ok (.aload_n 0, 1) := by decide +kernel
theorem dX4_press_13 : decode cX4_press 13 = .ok (.getfield 12, 3) := by decide +kernel
theorem dX4_press_16 : decode cX4_press 16 = .ok (.invokevirtual 99, 3) := by decide +kernel
theorem dX4_press_19 : decode cX4_press 19 = .ok (.aload_n 0, 1) := by decide +kernel
theorem dX4_press_20 : decode cX4_press 20 = .ok (.getfield 12, 3) := by decide +kernel
theorem dX4_press_23 : decode cX4_press 23 = .ok (.getfield 115, 3) := by decide +kernel
theorem dX4_press_26 : decode cX4_press 26 = .ok (.istore_n 2, 1) := by decide +kernel
theorem dX4_press_27 : decode cX4_press 27 = .ok (.aload_n 0, 1) := by decide +kernel
theorem dX4_press_28 : decode cX4_press 28 = .ok (.getfield 12, 3) := by decide +kernel
theorem dX4_press_31 : decode cX4_press 31 = .ok (.iload_n 1, 1) := by decide +kernel
theorem dX4_press_32 : decode cX4_press 32 = .ok (.putfield 115, 3) := by decide +kernel
theorem dX4_press_35 : decode cX4_press 35 = .ok (.iload_n 2, 1) := by decide +kernel
theorem dX4_press_36 : decode cX4_press 36 = .ok (.ireturn, 1) := by decide +kernel
theorem dX4_undo_0 : decode cX4_undo 0 = .ok (.aload_n 0, 1) := by decide +kernel
theorem dX4_undo_1 : decode cX4_undo 1 = .ok (.getfield 12, 3) := by decide +kernel
theorem dX4_undo_4 : decode cX4_undo 4 = .ok (.getfield 118, 3) := by decide +kernel
theorem dX4_undo_7 : decode cX4_undo 7 = .ok (.ifCond .ne 8, 3) := by decide +kernel
theorem dX4_undo_10 : decode cX4_undo 10 = .ok (.aload_n 0, 1) := by decide +kernel
theorem dX4_undo_11 : decode cX4_undo 11 = .ok (.invokevirtual 121, 3) := by decide +kernel
theorem dX4_undo_14 : decode cX4_undo 14 = .ok (.ireturn, 1) := by decide +kernel
theorem dX4_undo_15 : decode cX4_undo 15 = .ok (.aload_n 0, 1) := by decide +kernel
theorem dX4_undo_16 : decode cX4_undo 16 = .ok (.getfield 12, 3) := by decide +kernel
theorem dX4_undo_19 : decode cX4_undo 19 = .ok (.invokevirtual 124, 3) := by decide +kernel
theorem dX4_undo_22 : decode cX4_undo 22 = .ok (.aload_n 0, 1) := by decide +kernel
theorem dX4_undo_23 : decode cX4_undo 23 = .ok (.getfield 12, 3) := by decide +kernel
theorem dX4_undo_26 : decode cX4_undo 26 = .ok (.getfield 127, 3) := by decide +kernel
theorem dX4_undo_29 : decode cX4_undo 29 = .ok (.ireturn, 1) := by decide +kernel
theorem dX4_of_0 : decode cX4_of 0 = .ok (.aload_n 0, 1) := by decide +kernel
theorem dX4_of_1 : decode cX4_of 1 = .ok (.getfield 12, 3) := by decide +kernel
theorem dX4_of_4 : decode cX4_of 4 = .ok (.iload_n 1, 1) := by decide +kernel
theorem dX4_of_5 : decode cX4_of 5 = .ok (.invokevirtual 105, 3) := by decide +kernel
theorem dX4_of_8 : decode cX4_of 8 = .ok (.ifCond .ne 8, 3) := by decide +kernel
theorem dX4_of_11 : decode cX4_of 11 = .ok (.aload_n 0, 1) := by decide +kernel
theorem dX4_of_12 : decode cX4_of 12 = .ok (.invokevirtual 54, 3) := by decide +kernel
theorem dX4_of_15 : decode cX4_of 15 = .ok (.ireturn, 1) := by decide +kernel
theorem dX4_of_16 : decode cX4_of 16 = .ok (.iload_n 2, 1) := by decide +kernel
theorem dX4_of_17 : decode cX4_of 17 = .ok (.tableswitch 85 0 4 #[35, 45, 55, 65, 75], 35) := by decide +kernel
theorem dX4_of_52 : decode cX4_of 52 = .ok (.aload_n 0, 1) := by decide +kernel
theorem dX4_of_53 : decode cX4_of 53 = .ok (.getfield 12, 3) := by decide +kernel
theorem dX4_of_56 : decode cX4_of 56 = .ok (.getfield 130, 3) := by decide +kernel
theorem dX4_of_59 : decode cX4_of 59 = .ok (.iload_n 1, 1) := by decide +kernel
theorem dX4_of_60 : decode cX4_of 60 = .ok (.iaload, 1) := by decide +kernel
theorem dX4_of_61 : decode cX4_of 61 = .ok (.ireturn, 1) := by decide +kernel
theorem dX4_of_62 : decode cX4_of 62 = .ok (.aload_n 0, 1) := by decide +kernel
theorem dX4_of_63 : decode cX4_of 63 = .ok (.getfield 12, 3) := by decide +kernel
theorem dX4_of_66 : decode cX4_of 66 = .ok (.getfield 112, 3) := by decide +kernel
theorem dX4_of_69 : decode cX4_of 69 = .ok (.iload_n 1, 1) := by decide +kernel
theorem dX4_of_70 : decode cX4_of 70 = .ok (.iaload, 1) := by decide +kernel
theorem dX4_of_71 : decode cX4_of 71 = .ok (.ireturn, 1) := by decide +kernel
theorem dX4_of_72 : decode cX4_of 72 = .ok (.aload_n 0, 1) := by decide +kernel
theorem dX4_of_73 : decode cX4_of 73 = .ok (.getfield 12, 3) := by decide +kernel
theorem dX4_of_76 : decode cX4_of 76 = .ok (.getfield 108, 3) := by decide +kernel
theorem dX4_of_79 : decode cX4_of 79 = .ok (.iload_n 1, 1) := by decide +kernel
theorem dX4_of_80 : decode cX4_of 80 = .ok (.iaload, 1) := by decide +kernel
theorem dX4_of_81 : decode cX4_of 81 = .ok (.ireturn, 1) := by decide +kernel
theorem dX4_of_82 : decode cX4_of 82 = .ok (.aload_n 0, 1) := by decide +kernel
theorem dX4_of_83 : decode cX4_of 83 = .ok (.getfield 12, 3) := by decide +kernel
theorem dX4_of_86 : decode cX4_of 86 = .ok (.getfield 133, 3) := by decide +kernel
theorem dX4_of_89 : decode cX4_of 89 = .ok (.iload_n 1, 1) := by decide +kernel
theorem dX4_of_90 : decode cX4_of 90 = .ok (.iaload, 1) := by decide +kernel
theorem dX4_of_91 : decode cX4_of 91 = .ok (.ireturn, 1) := by decide +kernel
theorem dX4_of_92 : decode cX4_of 92 = .ok (.aload_n 0, 1) := by decide +kernel
theorem dX4_of_93 : decode cX4_of 93 = .ok (.getfield 12, 3) := by decide +kernel
theorem dX4_of_96 : decode cX4_of 96 = .ok (.getfield 136, 3) := by decide +kernel
theorem dX4_of_99 : decode cX4_of 99 = .ok (.iload_n 1, 1) := by decide +kernel
theorem dX4_of_100 : decode cX4_of 100 = .ok (.iaload, 1) := by decide +kernel
theorem dX4_of_101 : decode cX4_of 101 = .ok (.ireturn, 1) := by decide +kernel
theorem dX4_of_102 : decode cX4_of 102 = .ok (.aload_n 0, 1) := by decide +kernel
theorem dX4_of_103 : decode cX4_of 103 = .ok (.invokevirtual 54, 3) := by decide +kernel
theorem dX4_of_106 : decode cX4_of 106 = .ok (.ireturn, 1) := by decide +kernel
theorem dX4_hour_0 : decode cX4_hour 0 = .ok (.aload_n 0, 1) := by decide +kernel
theorem dX4_hour_1 : decode cX4_hour 1 = .ok (.getfield 12, 3) := by decide +kernel
theorem dX4_hour_4 : decode cX4_hour 4 = .ok (.iload_n 1, 1) := by decide +kernel
theorem dX4_hour_5 : decode cX4_hour 5 = .ok (.invokevirtual 105, 3) := by decide +kernel
theorem dX4_hour_8 : decode cX4_hour 8 = .ok (.ifCond .eq 19, 3) := by decide +kernel
theorem dX4_hour_11 : decode cX4_hour 11 = .ok (.iload_n 2, 1) := by decide +kernel
theorem dX4_hour_12 : decode cX4_hour 12 = .ok (.invokestatic 139, 3) := by decide +kernel
theorem dX4_hour_15 : decode cX4_hour 15 = .ok (.ifCond .eq 12, 3) := by decide +kernel
theorem dX4_hour_18 : decode cX4_hour 18 = .ok (.iload_n 3, 1) := by decide +kernel
theorem dX4_hour_19 : decode cX4_hour 19 = .ok (.iconst 0, 1) := by decide +kernel
theorem dX4_hour_20 : decode cX4_hour 20 = .ok (.iconst 2, 1) := by decide +kernel
theorem dX4_hour_21 : decode cX4_hour 21 = .ok (.invokestatic 65, 3) := by decide +kernel
theorem dX4_hour_24 : decode cX4_hour 24 = .ok (.ifCond .ne 8, 3) := by decide +kernel
theorem dX4_hour_27 : decode cX4_hour 27 = .ok (.aload_n 0, 1) := by decide +kernel
theorem dX4_hour_28 : decode cX4_hour 28 = .ok (.invokevirtual 54, 3) := by decide +kernel
theorem dX4_hour_31 : decode cX4_hour 31 = .ok (.ireturn, 1) := by decide +kernel
theorem dX4_hour_32 : decode cX4_hour 32 = .ok (.aload_n 0, 1) := by decide +kernel
theorem dX4_hour_33 : decode cX4_hour 33 = .ok (.getfield 12, 3) := by decide +kernel
theorem dX4_hour_36 : decode cX4_hour 36 = .ok (.iload_n 2, 1) := by decide +kernel
theorem dX4_hour_37 : decode cX4_hour 37 = .ok (.aload_n 0, 1) := by decide +kernel
theorem dX4_hour_38 : decode cX4_hour 38 = .ok (.getfield 12, 3) := by decide +kernel
theorem dX4_hour_41 : decode cX4_hour 41 = .ok (.iload_n 2, 1) := by decide +kernel
theorem dX4_hour_42 : decode cX4_hour 42 = .ok (.invokevirtual 142, 3) := by decide +kernel
theorem dX4_hour_45 : decode cX4_hour 45 = .ok (.aload_n 0, 1) := by decide +kernel
theorem dX4_hour_46 : decode cX4_hour 46 = .ok (.getfield 12, 3) := by decide +kernel
theorem dX4_hour_49 : decode cX4_hour 49 = .ok (.getfield 115, 3) := by decide +kernel
theorem dX4_hour_52 : decode cX4_hour 52 = .ok (.invokevirtual 145, 3) := by decide +kernel
theorem dX4_hour_55 : decode cX4_hour 55 = .ok (.iload_n 3, 1) := by decide +kernel
theorem dX4_hour_56 : decode cX4_hour 56 = .ok (.ifCond .ne 13, 3) := by decide +kernel
theorem dX4_hour_59 : decode cX4_hour 59 = .ok (.aload_n 0, 1) := by decide +kernel
theorem dX4_hour_60 : decode cX4_hour 60 = .ok (.getfield 12, 3) := by decide +kernel
theorem dX4_hour_63 : decode cX4_hour 63 = .ok (.getfield 149, 3) := by decide +kernel
theorem dX4_hour_66 : decode cX4_hour 66 = .ok (.iload_n 1, 1) := by decide +kernel
theorem dX4_hour_67 : decode cX4_hour 67 = .ok (.iaload, 1) := by decide +kernel
theorem dX4_hour_68 : decode cX4_hour 68 = .ok (.ireturn, 1) := by decide +kernel
theorem dX4_hour_69 : decode cX4_hour 69 = .ok (.iload_n 3, 1) := by decide +kernel
theorem dX4_hour_70 : decode cX4_hour 70 = .ok (.iconst 1, 1) := by decide +kernel
theorem dX4_hour_71 : decode cX4_hour 71 = .ok (.if_icmp .ne 15, 3) := by decide +kernel
theorem dX4_hour_74 : decode cX4_hour 74 = .ok (.aload_n 0, 1) := by decide +kernel
theorem dX4_hour_75 : decode cX4_hour 75 = .ok (.getfield 12, 3) := by decide +kernel
theorem dX4_hour_78 : decode cX4_hour 78 = .ok (.getfield 152, 3) := by decide +kernel
theorem dX4_hour_81 : decode cX4_hour 81 = .ok (.iload_n 1, 1) := by decide +kernel
theorem dX4_hour_82 : decode cX4_hour 82 = .ok (.iaload, 1) := by decide +kernel
theorem dX4_hour_83 : decode cX4_hour 83 = .ok (.goto 10, 3) := by decide +kernel
theorem dX4_hour_86 : decode cX4_hour 86 = .ok (.aload_n 0, 1) := by decide +kernel
theorem dX4_hour_87 : decode cX4_hour 87 = .ok (.getfield 12, 3) := by decide +kernel
theorem dX4_hour_90 : decode cX4_hour 90 = .ok (.getfield 155, 3) := by decide +kernel
theorem dX4_hour_93 : decode cX4_hour 93 = .ok (.ireturn, 1) := by decide +kernel
theorem dX4_daily_0 : decode cX4_daily 0 = .ok (.iload_n 1, 1) := by decide +kernel
theorem dX4_daily_1 : decode cX4_daily 1 = .ok (.iconst (-1), 1) := by decide +kernel
theorem dX4_daily_2 : decode cX4_daily 2 = .ok (.if_icmp .eq 14, 3) := by decide +kernel
theorem dX4_daily_5 : decode cX4_daily 5 = .ok (.aload_n 0, 1) := by decide +kernel
theorem dX4_daily_6 : decode cX4_daily 6 = .ok (.getfield 12, 3) := by decide +kernel
theorem dX4_daily_9 : decode cX4_daily 9 = .ok (.iload_n 1, 1) := by decide +kernel
theorem dX4_daily_10 : decode cX4_daily 10 = .ok (.invokevirtual 105, 3) := by decide +kernel
theorem dX4_daily_13 : decode cX4_daily 13 = .ok (.ifCond .eq 12, 3) := by decide +kernel
theorem dX4_daily_16 : decode cX4_daily 16 = .ok (.iload_n 2, 1) := by decide +kernel
theorem dX4_daily_17 : decode cX4_daily 17 = .ok (.iconst 0, 1) := by decide +kernel
theorem dX4_daily_18 : decode cX4_daily 18 = .ok (.iconst 1, 1) := by decide +kernel
theorem dX4_daily_19 : decode cX4_daily 19 = .ok (.invokestatic 65, 3) := by decide +kernel
theorem dX4_daily_22 : decode cX4_daily 22 = .ok (.ifCond .ne 8, 3) := by decide +kernel
theorem dX4_daily_25 : decode cX4_daily 25 = .ok (.aload_n 0, 1) := by decide +kernel
theorem dX4_daily_26 : decode cX4_daily 26 = .ok (.invokevirtual 54, 3) := by decide +kernel
theorem dX4_daily_29 : decode cX4_daily 29 = .ok (.ireturn, 1) := by decide +kernel
theorem dX4_daily_30 : decode cX4_daily 30 = .ok (.iload_n 1, 1) := by decide +kernel
theorem dX4_daily_31 : decode cX4_daily 31 = .ok (.iconst (-1), 1) := by decide +kernel
theorem dX4_daily_32 : decode cX4_daily 32 = .ok (.if_icmp .eq 10, 3) := by decide +kernel
theorem dX4_daily_35 : decode cX4_daily 35 = .ok (.aload_n 0, 1) := by decide +kernel
theorem dX4_daily_36 : decode cX4_daily 36 = .ok (.iload_n 1, 1) := by decide +kernel
theorem dX4_daily_37 : decode cX4_daily 37 = .ok (.iload_n 2, 1) := by decide +kernel
theorem dX4_daily_38 : decode cX4_daily 38 = .ok (.invokevirtual 158, 3) := by decide +kernel
theorem dX4_daily_41 : decode cX4_daily 41 = .ok (.ireturn, 1) := by decide +kernel
theorem dX4_daily_42 : decode cX4_daily 42 = .ok (.iconst 0, 1) := by decide +kernel
theorem dX4_daily_43 : decode cX4_daily 43 = .ok (.istore_n 3, 1) := by decide +kernel
theorem dX4_daily_44 : decode cX4_daily 44 = .ok (.iconst 0, 1) := by decide +kernel
theorem dX4_daily_45 : decode cX4_daily 45 = .ok (.istore 4, 2) := by decide +kernel
theorem dX4_daily_47 : decode cX4_daily 47 = .ok (.iload 4, 2) := by decide +kernel
theorem dX4_daily_49 : decode cX4_daily 49 = .ok (.aload_n 0, 1) := by decide +kernel
theorem dX4_daily_50 : decode cX4_daily 50 = .ok (.getfield 12, 3) := by decide +kernel
theorem dX4_daily_53 : decode cX4_daily 53 = .ok (.getfield 58, 3) := by decide +kernel
theorem dX4_daily_56 : decode cX4_daily 56 = .ok (.if_icmp .ge 19, 3) := by decide +kernel
theorem dX4_daily_59 : decode cX4_daily 59 = .ok (.iload_n 3, 1) := by decide +kernel
theorem dX4_daily_60 : decode cX4_daily 60 = .ok (.aload_n 0, 1) := by decide +kernel
theorem dX4_daily_61 : decode cX4_daily 61 = .ok (.iload 4, 2) := by decide +kernel
theorem dX4_daily_63 : decode cX4_daily 63 = .ok (.iload_n 2, 1) := by decide +kernel
theorem dX4_daily_64 : decode cX4_daily 64 = .ok (.invokevirtual 158, 3) := by decide +kernel
theorem dX4_daily_67 : decode cX4_daily 67 = .ok (.iadd, 1) := by decide +kernel
theorem dX4_daily_68 : decode cX4_daily 68 = .ok (.istore_n 3, 1) := by decide +kernel
theorem dX4_daily_69 : decode cX4_daily 69 = .ok (.iinc 4 1, 3) := by decide +kernel
theorem dX4_daily_72 : decode cX4_daily 72 = .ok (.goto (-25), 3) := by decide +kernel
theorem dX4_daily_75 : decode cX4_daily 75 = .ok (.iload_n 3, 1) := by decide +kernel
theorem dX4_daily_76 : decode cX4_daily 76 = .ok (.ireturn, 1) := by decide +kernel
theorem dX4_turns_0 : decode cX4_turns 0 = .ok (.iload_n 1, 1) := by decide +kernel
theorem dX4_turns_1 : decode cX4_turns 1 = .ok (.iconst (-1), 1) := by decide +kernel
theorem dX4_turns_2 : decode cX4_turns 2 = .ok (.if_icmp .eq 19, 3) := by decide +kernel
theorem dX4_turns_5 : decode cX4_turns 5 = .ok (.aload_n 0, 1) := by decide +kernel
theorem dX4_turns_6 : decode cX4_turns 6 = .ok (.getfield 12, 3) := by decide +kernel
theorem dX4_turns_9 : decode cX4_turns 9 = .ok (.iload_n 1, 1) := by decide +kernel
theorem dX4_turns_10 : decode cX4_turns 10 = .ok (.invokevirtual 105, 3) := by decide +kernel
theorem dX4_turns_13 : decode cX4_turns 13 = .ok (.ifCond .ne 8, 3) := by decide +kernel
theorem dX4_turns_16 : decode cX4_turns 16 = .ok (.aload_n 0, 1) := by decide +kernel
theorem dX4_turns_17 : decode cX4_turns 17 = .ok (.invokevirtual 162, 3) := by decide +kernel
theorem dX4_turns_20 : decode cX4_turns 20 = .ok (.ireturn, 1) := by decide +kernel
theorem dX4_turns_21 : decode cX4_turns 21 = .ok (.aload_n 0, 1) := by decide +kernel
theorem dX4_turns_22 : decode cX4_turns 22 = .ok (.getfield 23, 3) := by decide +kernel
theorem dX4_turns_25 : decode cX4_turns 25 = .ok (.aload_n 0, 1) := by decide +kernel
theorem dX4_turns_26 : decode cX4_turns 26 = .ok (.getfield 12, 3) := by decide +kernel
theorem dX4_turns_29 : decode cX4_turns 29 = .ok (.invokevirtual 165, 3) := by decide +kernel
theorem dX4_turns_32 : decode cX4_turns 32 = .ok (.iload_n 1, 1) := by decide +kernel
theorem dX4_turns_33 : decode cX4_turns 33 = .ok (.iconst (-1), 1) := by decide +kernel
theorem dX4_turns_34 : decode cX4_turns 34 = .ok (.if_icmp .ne 13, 3) := by decide +kernel
theorem dX4_turns_37 : decode cX4_turns 37 = .ok (.aload_n 0, 1) := by decide +kernel
theorem dX4_turns_38 : decode cX4_turns 38 = .ok (.getfield 23, 3) := by decide +kernel
theorem dX4_turns_41 : decode cX4_turns 41 = .ok (.getfield 168, 3) := by decide +kernel
theorem dX4_turns_44 : decode cX4_turns 44 = .ok (.goto 12, 3) := by decide +kernel
theorem dX4_turns_47 : decode cX4_turns 47 = .ok (.aload_n 0, 1) := by decide +kernel
theorem dX4_turns_48 : decode cX4_turns 48 = .ok (.getfield 23, 3) := by decide +kernel
theorem dX4_turns_51 : decode cX4_turns 51 = .ok (.getfield 171, 3) := by decide +kernel
theorem dX4_turns_54 : decode cX4_turns 54 = .ok (.iload_n 1, 1) := by decide +kernel
theorem dX4_turns_55 : decode cX4_turns 55 = .ok (.iaload, 1) := by decide +kernel
theorem dX4_turns_56 : decode cX4_turns 56 = .ok (.ireturn, 1) := by decide +kernel
theorem dX4_fair_0 : decode cX4_fair 0 = .ok (.iload_n 1, 1) := by decide +kernel
theorem dX4_fair_1 : decode cX4_fair 1 = .ok (.iconst (-1), 1) := by decide +kernel
theorem dX4_fair_2 : decode cX4_fair 2 = .ok (.if_icmp .eq 19, 3) := by decide +kernel
theorem dX4_fair_5 : decode cX4_fair 5 = .ok (.aload_n 0, 1) := by decide +kernel
theorem dX4_fair_6 : decode cX4_fair 6 = .ok (.getfield 12, 3) := by decide +kernel
theorem dX4_fair_9 : decode cX4_fair 9 = .ok (.iload_n 1, 1) := by decide +kernel
theorem dX4_fair_10 : decode cX4_fair 10 = .ok (.invokevirtual 105, 3) := by decide +kernel
theorem dX4_fair_13 : decode cX4_fair 13 = .ok (.ifCond .ne 8, 3) := by decide +kernel
theorem dX4_fair_16 : decode cX4_fair 16 = .ok (.aload_n 0, 1) := by decide +kernel
theorem dX4_fair_17 : decode cX4_fair 17 = .ok (.invokevirtual 162, 3) := by decide +kernel
theorem dX4_fair_20 : decode cX4_fair 20 = .ok (.ireturn, 1) := by decide +kernel
theorem dX4_fair_21 : decode cX4_fair 21 = .ok (.aload_n 0, 1) := by decide +kernel
theorem dX4_fair_22 : decode cX4_fair 22 = .ok (.getfield 23, 3) := by decide +kernel
theorem dX4_fair_25 : decode cX4_fair 25 = .ok (.aload_n 0, 1) := by decide +kernel
theorem dX4_fair_26 : decode cX4_fair 26 = .ok (.getfield 12, 3) := by decide +kernel
theorem dX4_fair_29 : decode cX4_fair 29 = .ok (.invokevirtual 174, 3) := by decide +kernel
theorem dX4_fair_32 : decode cX4_fair 32 = .ok (.aload_n 0, 1) := by decide +kernel
theorem dX4_fair_33 : decode cX4_fair 33 = .ok (.getfield 23, 3) := by decide +kernel
theorem dX4_fair_36 : decode cX4_fair 36 = .ok (.getfield 177, 3) := by decide +kernel
theorem dX4_fair_39 : decode cX4_fair 39 = .ok (.ifCond .ne 5, 3) := by decide +kernel
theorem dX4_fair_42 : decode cX4_fair 42 = .ok (.iconst (-1), 1) := by decide +kernel
theorem dX4_fair_43 : decode cX4_fair 43 = .ok (.ireturn, 1) := by decide +kernel
theorem dX4_fair_44 : decode cX4_fair 44 = .ok (.iload_n 1, 1) := by decide +kernel
theorem dX4_fair_45 : decode cX4_fair 45 = .ok (.iconst (-1), 1) := by decide +kernel
theorem dX4_fair_46 : decode cX4_fair 46 = .ok (.if_icmp .ne 14, 3) := by decide +kernel
theorem dX4_fair_49 : decode cX4_fair 49 = .ok (.aload_n 0, 1) := by decide +kernel
theorem dX4_fair_50 : decode cX4_fair 50 = .ok (.getfield 23, 3) := by decide +kernel
theorem dX4_fair_53 : decode cX4_fair 53 = .ok (.getfield 168, 3) := by decide +kernel
theorem dX4_fair_56 : decode cX4_fair 56 = .ok (.ineg, 1) := by decide +kernel
theorem dX4_fair_57 : decode cX4_fair 57 = .ok (.goto 12, 3) := by decide +kernel
theorem dX4_fair_60 : decode cX4_fair 60 = .ok (.aload_n 0, 1) := by decide +kernel
theorem dX4_fair_61 : decode cX4_fair 61 = .ok (.getfield 23, 3) := by decide +kernel
theorem dX4_fair_64 : decode cX4_fair 64 = .ok (.getfield 171, 3) := by decide +kernel
theorem dX4_fair_67 : decode cX4_fair 67 = .ok (.iload_n 1, 1) := by decide +kernel
theorem dX4_fair_68 : decode cX4_fair 68 = .ok (.iaload, 1) := by decide +kernel
theorem dX4_fair_69 : decode cX4_fair 69 = .ok (.ireturn, 1) := by decide +kernel
theorem dX4_least_0 : decode cX4_least 0 = .ok (.iconst 0, 1) := by decide +kernel
theorem dX4_least_1 : decode cX4_least 1 = .ok (.istore_n 1, 1) := by decide +kernel
theorem dX4_least_2 : decode cX4_least 2 = .ok (.iload_n 1, 1) := by decide +kernel
theorem dX4_least_3 : decode cX4_least 3 = .ok (.bipush 99, 2) := by decide +kernel
theorem dX4_least_5 : decode cX4_least 5 = .ok (.if_icmp .gt 19, 3) := by decide +kernel
theorem dX4_least_8 : decode cX4_least 8 = .ok (.aload_n 0, 1) := by decide +kernel
theorem dX4_least_9 : decode cX4_least 9 = .ok (.iload_n 1, 1) := by decide +kernel
theorem dX4_least_10 : decode cX4_least 10 = .ok (.invokevirtual 181, 3) := by decide +kernel
theorem dX4_least_13 : decode cX4_least 13 = .ok (.ifCond .eq 5, 3) := by decide +kernel
theorem dX4_least_16 : decode cX4_least 16 = .ok (.iload_n 1, 1) := by decide +kernel
theorem dX4_least_17 : decode cX4_least 17 = .ok (.ireturn, 1) := by decide +kernel
theorem dX4_least_18 : decode cX4_least 18 = .ok (.iinc 1 1, 3) := by decide +kernel
theorem dX4_least_21 : decode cX4_least 21 = .ok (.goto (-19), 3) := by decide +kernel
theorem dX4_least_24 : decode cX4_least 24 = .ok (.iconst (-1), 1) := by decide +kernel
theorem dX4_least_25 : decode cX4_least 25 = .ok (.ireturn, 1) := by decide +kernel
theorem dX4_shut_0 : decode cX4_shut 0 = .ok (.aload_n 0, 1) := by decide +kernel
theorem dX4_shut_1 : decode cX4_shut 1 = .ok (.getfield 12, 3) := by decide +kernel
theorem dX4_shut_4 : decode cX4_shut 4 = .ok (.iload_n 1, 1) := by decide +kernel
theorem dX4_shut_5 : decode cX4_shut 5 = .ok (.invokevirtual 105, 3) := by decide +kernel
theorem dX4_shut_8 : decode cX4_shut 8 = .ok (.ifCond .ne 8, 3) := by decide +kernel
theorem dX4_shut_11 : decode cX4_shut 11 = .ok (.aload_n 0, 1) := by decide +kernel
theorem dX4_shut_12 : decode cX4_shut 12 = .ok (.invokevirtual 54, 3) := by decide +kernel
theorem dX4_shut_15 : decode cX4_shut 15 = .ok (.ireturn, 1) := by decide +kernel
theorem dX4_shut_16 : decode cX4_shut 16 = .ok (.aload_n 0, 1) := by decide +kernel
theorem dX4_shut_17 : decode cX4_shut 17 = .ok (.getfield 12, 3) := by decide +kernel
theorem dX4_shut_20 : decode cX4_shut 20 = .ok (.iload_n 1, 1) := by decide +kernel
theorem dX4_shut_21 : decode cX4_shut 21 = .ok (.aload_n 0, 1) := by decide +kernel
theorem dX4_shut_22 : decode cX4_shut 22 = .ok (.getfield 12, 3) := by decide +kernel
theorem dX4_shut_25 : decode cX4_shut 25 = .ok (.invokevirtual 184, 3) := by decide +kernel
theorem dX4_shut_28 : decode cX4_shut 28 = .ok (.invokevirtual 187, 3) := by decide +kernel
theorem dX4_shut_31 : decode cX4_shut 31 = .ok (.istore_n 2, 1) := by decide +kernel
theorem dX4_shut_32 : decode cX4_shut 32 = .ok (.iconst (-1), 1) := by decide +kernel
theorem dX4_shut_33 : decode cX4_shut 33 = .ok (.istore_n 3, 1) := by decide +kernel
theorem dX4_shut_34 : decode cX4_shut 34 = .ok (.iconst 0, 1) := by decide +kernel
theorem dX4_shut_35 : decode cX4_shut 35 = .ok (.istore 4, 2) := by decide +kernel
theorem dX4_shut_37 : decode cX4_shut 37 = .ok (.iload 4, 2) := by decide +kernel
theorem dX4_shut_39 : decode cX4_shut 39 = .ok (.aload_n 0, 1) := by decide +kernel
theorem dX4_shut_40 : decode cX4_shut 40 = .ok (.getfield 12, 3) := by decide +kernel
theorem dX4_shut_43 : decode cX4_shut 43 = .ok (.getfield 58, 3) := by decide +kernel
theorem dX4_shut_46 : decode cX4_shut 46 = .ok (.if_icmp .ge 54, 3) := by decide +kernel
theorem dX4_shut_49 : decode cX4_shut 49 = .ok (.iload 4, 2) := by decide +kernel
theorem dX4_shut_51 : decode cX4_shut 51 = .ok (.iload_n 1, 1) := by decide +kernel
theorem dX4_shut_52 : decode cX4_shut 52 = .ok (.if_icmp .ne 6, 3) := by decide +kernel
theorem dX4_shut_55 : decode cX4_shut 55 = .ok (.goto 39, 3) := by decide +kernel
theorem dX4_shut_58 : decode cX4_shut 58 = .ok (.aload_n 0, 1) := by decide +kernel
theorem dX4_shut_59 : decode cX4_shut 59 = .ok (.getfield 12, 3) := by decide +kernel
theorem dX4_shut_62 : decode cX4_shut 62 = .ok (.iload_n 1, 1) := by decide +kernel
theorem dX4_shut_63 : decode cX4_shut 63 = .ok (.aload_n 0, 1) := by decide +kernel
theorem dX4_shut_64 : decode cX4_shut 64 = .ok (.getfield 12, 3) := by decide +kernel
theorem dX4_shut_67 : decode cX4_shut 67 = .ok (.invokevirtual 184, 3) := by decide +kernel
theorem dX4_shut_70 : decode cX4_shut 70 = .ok (.iconst 1, 1) := by decide +kernel
theorem dX4_shut_71 : decode cX4_shut 71 = .ok (.iload 4, 2) := by decide +kernel
theorem dX4_shut_73 : decode cX4_shut 73 = .ok (.ishl, 1) := by decide +kernel
theorem dX4_shut_74 : decode cX4_shut 74 = .ok (.iconst (-1), 1) := by decide +kernel
theorem dX4_shut_75 : decode cX4_shut 75 = .ok (.ixor, 1) := by decide +kernel
theorem dX4_shut_76 : decode cX4_shut 76 = .ok (.iand, 1) := by decide +kernel
theorem dX4_shut_77 : decode cX4_shut 77 = .ok (.invokevirtual 187, 3) := by decide +kernel
theorem dX4_shut_80 : decode cX4_shut 80 = .ok (.istore 5, 2) := by decide +kernel
theorem dX4_shut_82 : decode cX4_shut 82 = .ok (.iload 5, 2) := by decide +kernel
theorem dX4_shut_84 : decode cX4_shut 84 = .ok (.iload_n 2, 1) := by decide +kernel
theorem dX4_shut_85 : decode cX4_shut 85 = .ok (.if_icmp .le 9, 3) := by decide +kernel
theorem dX4_shut_88 : decode cX4_shut 88 = .ok (.iload 5, 2) := by decide +kernel
theorem dX4_shut_90 : decode cX4_shut 90 = .ok (.istore_n 2, 1) := by decide +kernel
theorem dX4_shut_91 : decode cX4_shut 91 = .ok (.iload 4, 2) := by decide +kernel
theorem dX4_shut_93 : decode cX4_shut 93 = .ok (.istore_n 3, 1) := by decide +kernel
theorem dX4_shut_94 : decode cX4_shut 94 = .ok (.iinc 4 1, 3) := by decide +kernel
theorem dX4_shut_97 : decode cX4_shut 97 = .ok (.goto (-60), 3) := by decide +kernel
theorem dX4_shut_100 : decode cX4_shut 100 = .ok (.iload_n 3, 1) := by decide +kernel
theorem dX4_shut_101 : decode cX4_shut 101 = .ok (.ireturn, 1) := by decide +kernel
theorem dX4_left_0 : decode cX4_left 0 = .ok (.iload_n 1, 1) := by decide +kernel
theorem dX4_left_1 : decode cX4_left 1 = .ok (.invokestatic 139, 3) := by decide +kernel
theorem dX4_left_4 : decode cX4_left 4 = .ok (.ifCond .eq 10, 3) := by decide +kernel
theorem dX4_left_7 : decode cX4_left 7 = .ok (.iload_n 2, 1) := by decide +kernel
theorem dX4_left_8 : decode cX4_left 8 = .ok (.invokestatic 50, 3) := by decide +kernel
theorem dX4_left_11 : decode cX4_left 11 = .ok (.ifCond .ne 8, 3) := by decide +kernel
theorem dX4_left_14 : decode cX4_left 14 = .ok (.aload_n 0, 1) := by decide +kernel
theorem dX4_left_15 : decode cX4_left 15 = .ok (.invokevirtual 54, 3) := by decide +kernel
theorem dX4_left_18 : decode cX4_left 18 = .ok (.ireturn, 1) := by decide +kernel
theorem dX4_left_19 : decode cX4_left 19 = .ok (.aload_n 0, 1) := by decide +kernel
theorem dX4_left_20 : decode cX4_left 20 = .ok (.getfield 12, 3) := by decide +kernel
theorem dX4_left_23 : decode cX4_left 23 = .ok (.getfield 190, 3) := by decide +kernel
theorem dX4_left_26 : decode cX4_left 26 = .ok (.iconst 4, 1) := by decide +kernel
theorem dX4_left_27 : decode cX4_left 27 = .ok (.if_icmp .lt 8, 3) := by decide +kernel
theorem dX4_left_30 : decode cX4_left 30 = .ok (.aload_n 0, 1) := by decide +kernel
theorem dX4_left_31 : decode cX4_left 31 = .ok (.invokevirtual 72, 3) := by decide +kernel
theorem dX4_left_34 : decode cX4_left 34 = .ok (.ireturn, 1) := by decide +kernel
theorem dX4_left_35 : decode cX4_left 35 = .ok (.aload_n 0, 1) := by decide +kernel
theorem dX4_left_36 : decode cX4_left 36 = .ok (.getfield 12, 3) := by decide +kernel
theorem dX4_left_39 : decode cX4_left 39 = .ok (.iload_n 1, 1) := by decide +kernel
theorem dX4_left_40 : decode cX4_left 40 = .ok (.iload_n 2, 1) := by decide +kernel
theorem dX4_left_41 : decode cX4_left 41 = .ok (.invokevirtual 193, 3) := by decide +kernel
theorem dX4_left_44 : decode cX4_left 44 = .ok (.ireturn, 1) := by decide +kernel
theorem dX4_drew_0 : decode cX4_drew 0 = .ok (.iload_n 1, 1) := by decide +kernel
theorem dX4_drew_1 : decode cX4_drew 1 = .ok (.iconst 0, 1) := by decide +kernel
theorem dX4_drew_2 : decode cX4_drew 2 = .ok (.iconst 2, 1) := by decide +kernel
theorem dX4_drew_3 : decode cX4_drew 3 = .ok (.invokestatic 65, 3) := by decide +kernel
theorem dX4_drew_6 : decode cX4_drew 6 = .ok (.ifCond .ne 8, 3) := by decide +kernel
theorem dX4_drew_9 : decode cX4_drew 9 = .ok (.aload_n 0, 1) := by decide +kernel
theorem dX4_drew_10 : decode cX4_drew 10 = .ok (.invokevirtual 54, 3) := by decide +kernel
theorem dX4_drew_13 : decode cX4_drew 13 = .ok (.ireturn, 1) := by decide +kernel
theorem dX4_drew_14 : decode cX4_drew 14 = .ok (.iconst 0, 1) := by decide +kernel
theorem dX4_drew_15 : decode cX4_drew 15 = .ok (.istore_n 2, 1) := by decide +kernel
theorem dX4_drew_16 : decode cX4_drew 16 = .ok (.aload_n 0, 1) := by decide +kernel
theorem dX4_drew_17 : decode cX4_drew 17 = .ok (.getfield 12, 3) := by decide +kernel
theorem dX4_drew_20 : decode cX4_drew 20 = .ok (.invokevirtual 184, 3) := by decide +kernel
theorem dX4_drew_23 : decode cX4_drew 23 = .ok (.istore_n 3, 1) := by decide +kernel
theorem dX4_drew_24 : decode cX4_drew 24 = .ok (.iconst 0, 1) := by decide +kernel
theorem dX4_drew_25 : decode cX4_drew 25 = .ok (.istore 4, 2) := by decide +kernel
theorem dX4_drew_27 : decode cX4_drew 27 = .ok (.iconst 0, 1) := by decide +kernel
theorem dX4_drew_28 : decode cX4_drew 28 = .ok (.istore 5, 2) := by decide +kernel
theorem dX4_drew_30 : decode cX4_drew 30 = .ok (.iload 5, 2) := by decide +kernel
theorem dX4_drew_32 : decode cX4_drew 32 = .ok (.aload_n 0, 1) := by decide +kernel
theorem dX4_drew_33 : decode cX4_drew 33 = .ok (.getfield 12, 3) := by decide +kernel
theorem dX4_drew_36 : decode cX4_drew 36 = .ok (.invokevirtual 184, 3) := by decide +kernel
theorem dX4_drew_39 : decode cX4_drew 39 = .ok (.if_icmp .gt 36, 3) := by decide +kernel
theorem dX4_drew_42 : decode cX4_drew 42 = .ok (.aload_n 0, 1) := by decide +kernel
theorem dX4_drew_43 : decode cX4_drew 43 = .ok (.iload 5, 2) := by decide +kernel
theorem dX4_drew_45 : decode cX4_drew 45 = .ok (.invokevirtual 196, 3) := by decide +kernel
theorem dX4_drew_48 : decode cX4_drew 48 = .ok (.ifCond .ne 6, 3) := by decide +kernel
theorem dX4_drew_51 : decode cX4_drew 51 = .ok (.goto 18, 3) := by decide +kernel
theorem dX4_drew_54 : decode cX4_drew 54 = .ok (.iinc 2 1, 3) := by decide +kernel
theorem dX4_drew_57 : decode cX4_drew 57 = .ok (.iload_n 3, 1) := by decide +kernel
theorem dX4_drew_58 : decode cX4_drew 58 = .ok (.iload 5, 2) := by decide +kernel
theorem dX4_drew_60 : decode cX4_drew 60 = .ok (.iand, 1) := by decide +kernel
theorem dX4_drew_61 : decode cX4_drew 61 = .ok (.istore_n 3, 1) := by decide +kernel
theorem dX4_drew_62 : decode cX4_drew 62 = .ok (.iload 4, 2) := by decide +kernel
theorem dX4_drew_64 : decode cX4_drew 64 = .ok (.iload 5, 2) := by decide +kernel
theorem dX4_drew_66 : decode cX4_drew 66 = .ok (.ior, 1) := by decide +kernel
theorem dX4_drew_67 : decode cX4_drew 67 = .ok (.istore 4, 2) := by decide +kernel
theorem dX4_drew_69 : decode cX4_drew 69 = .ok (.iinc 5 1, 3) := by decide +kernel
theorem dX4_drew_72 : decode cX4_drew 72 = .ok (.goto (-42), 3) := by decide +kernel
theorem dX4_drew_75 : decode cX4_drew 75 = .ok (.iload_n 1, 1) := by decide +kernel
theorem dX4_drew_76 : decode cX4_drew 76 = .ok (.ifCond .ne 5, 3) := by decide +kernel
theorem dX4_drew_79 : decode cX4_drew 79 = .ok (.iload_n 2, 1) := by decide +kernel
theorem dX4_drew_80 : decode cX4_drew 80 = .ok (.ireturn, 1) := by decide +kernel
theorem dX4_drew_81 : decode cX4_drew 81 = .ok (.iload_n 1, 1) := by decide +kernel
theorem dX4_drew_82 : decode cX4_drew 82 = .ok (.iconst 2, 1) := by decide +kernel
theorem dX4_drew_83 : decode cX4_drew 83 = .ok (.if_icmp .ne 6, 3) := by decide +kernel
theorem dX4_drew_86 : decode cX4_drew 86 = .ok (.iload 4, 2) := by decide +kernel
theorem dX4_drew_88 : decode cX4_drew 88 = .ok (.ireturn, 1) := by decide +kernel
theorem dX4_drew_89 : decode cX4_drew 89 = .ok (.iload_n 2, 1) := by decide +kernel
theorem dX4_drew_90 : decode cX4_drew 90 = .ok (.ifCond .ne 7, 3) := by decide +kernel
theorem dX4_drew_93 : decode cX4_drew 93 = .ok (.iconst (-1), 1) := by decide +kernel
theorem dX4_drew_94 : decode cX4_drew 94 = .ok (.goto 4, 3) := by decide +kernel
theorem dX4_drew_97 : decode cX4_drew 97 = .ok (.iload_n 3, 1) := by decide +kernel
theorem dX4_drew_98 : decode cX4_drew 98 = .ok (.ireturn, 1) := by decide +kernel
theorem dX4_note_0 : decode cX4_note 0 = .ok (.aload_n 0, 1) := by decide +kernel
theorem dX4_note_1 : decode cX4_note 1 = .ok (.getfield 12, 3) := by decide +kernel
theorem dX4_note_4 : decode cX4_note 4 = .ok (.iload_n 1, 1) := by decide +kernel
theorem dX4_note_5 : decode cX4_note 5 = .ok (.invokevirtual 105, 3) := by decide +kernel
theorem dX4_note_8 : decode cX4_note 8 = .ok (.ifCond .eq 25, 3) := by decide +kernel
theorem dX4_note_11 : decode cX4_note 11 = .ok (.iload_n 2, 1) := by decide +kernel
theorem dX4_note_12 : decode cX4_note 12 = .ok (.invokestatic 69, 3) := by decide +kernel
theorem dX4_note_15 : decode cX4_note 15 = .ok (.ifCond .eq 18, 3) := by decide +kernel
theorem dX4_note_18 : decode cX4_note 18 = .ok (.iload_n 3, 1) := by decide +kernel
theorem dX4_note_19 : decode cX4_note 19 = .ok (.invokestatic 139, 3) := by decide +kernel
theorem dX4_note_22 : decode cX4_note 22 = .ok (.ifCond .eq 11, 3) := by decide +kernel
theorem dX4_note_25 : decode cX4_note 25 = .ok (.iload 4, 2) := by decide +kernel
theorem dX4_note_27 : decode cX4_note 27 = .ok (.invokestatic 50, 3) := by decide +kernel
theorem dX4_note_30 : decode cX4_note 30 = .ok (.ifCond .ne 8, 3) := by decide +kernel
theorem dX4_note_33 : decode cX4_note 33 = .ok (.aload_n 0, 1) := by decide +kernel
theorem dX4_note_34 : decode cX4_note 34 = .ok (.invokevirtual 54, 3) := by decide +kernel
theorem dX4_note_37 : decode cX4_note 37 = .ok (.ireturn, 1) := by decide +kernel
theorem dX4_note_38 : decode cX4_note 38 = .ok (.iload 5, 2) := by decide +kernel
theorem dX4_note_40 : decode cX4_note 40 = .ok (.iconst 0, 1) := by decide +kernel
theorem dX4_note_41 : decode cX4_note 41 = .ok (.bipush 40, 2) := by decide +kernel
theorem dX4_note_43 : decode cX4_note 43 = .ok (.invokestatic 65, 3) := by decide +kernel
theorem dX4_note_46 : decode cX4_note 46 = .ok (.ifCond .eq 14, 3) := by decide +kernel
theorem dX4_note_49 : decode cX4_note 49 = .ok (.iload 6, 2) := by decide +kernel
theorem dX4_note_51 : decode cX4_note 51 = .ok (.iconst 0, 1) := by decide +kernel
theorem dX4_note_52 : decode cX4_note 52 = .ok (.bipush 80, 2) := by decide +kernel
theorem dX4_note_54 : decode cX4_note 54 = .ok (.invokestatic 65, 3) := by decide +kernel
theorem dX4_note_57 : decode cX4_note 57 = .ok (.ifCond .ne 8, 3) := by decide +kernel
theorem dX4_note_60 : decode cX4_note 60 = .ok (.aload_n 0, 1) := by decide +kernel
theorem dX4_note_61 : decode cX4_note 61 = .ok (.invokevirtual 54, 3) := by decide +kernel
theorem dX4_note_64 : decode cX4_note 64 = .ok (.ireturn, 1) := by decide +kernel
theorem dX4_note_65 : decode cX4_note 65 = .ok (.aload_n 0, 1) := by decide +kernel
theorem dX4_note_66 : decode cX4_note 66 = .ok (.getfield 12, 3) := by decide +kernel
theorem dX4_note_69 : decode cX4_note 69 = .ok (.getfield 199, 3) := by decide +kernel
theorem dX4_note_72 : decode cX4_note 72 = .ok (.bipush 6, 2) := by decide +kernel
theorem dX4_note_74 : decode cX4_note 74 = .ok (.if_icmp .lt 8, 3) := by decide +kernel
theorem dX4_note_77 : decode cX4_note 77 = .ok (.aload_n 0, 1) := by decide +kernel
theorem dX4_note_78 : decode cX4_note 78 = .ok (.invokevirtual 72, 3) := by decide +kernel
theorem dX4_note_81 : decode cX4_note 81 = .ok (.ireturn, 1) := by decide +kernel
theorem dX4_note_82 : decode cX4_note 82 = .ok (.aload_n 0, 1) := by decide +kernel
theorem dX4_note_83 : decode cX4_note 83 = .ok (.getfield 12, 3) := by decide +kernel
theorem dX4_note_86 : decode cX4_note 86 = .ok (.iload_n 1, 1) := by decide +kernel
theorem dX4_note_87 : decode cX4_note 87 = .ok (.iload_n 2, 1) := by decide +kernel
theorem dX4_note_88 : decode cX4_note 88 = .ok (.iload_n 3, 1) := by decide +kernel
theorem dX4_note_89 : decode cX4_note 89 = .ok (.iload 4, 2) := by decide +kernel
theorem dX4_note_91 : decode cX4_note 91 = .ok (.iload 5, 2) := by decide +kernel
theorem dX4_note_93 : decode cX4_note 93 = .ok (.iload 6, 2) := by decide +kernel
theorem dX4_note_95 : decode cX4_note 95 = .ok (.invokevirtual 202, 3) := by decide +kernel
theorem dX4_note_98 : decode cX4_note 98 = .ok (.ireturn, 1) := by decide +kernel
theorem dX4_forget_0 : decode cX4_forget 0 = .ok (.iload_n 1, 1) := by decide +kernel
theorem dX4_forget_1 : decode cX4_forget 1 = .ok (.iconst 0, 1) := by decide +kernel
theorem dX4_forget_2 : decode cX4_forget 2 = .ok (.iconst 1, 1) := by decide +kernel
theorem dX4_forget_3 : decode cX4_forget 3 = .ok (.invokestatic 65, 3) := by decide +kernel
theorem dX4_forget_6 : decode cX4_forget 6 = .ok (.ifCond .ne 8, 3) := by decide +kernel
theorem dX4_forget_9 : decode cX4_forget 9 = .ok (.aload_n 0, 1) := by decide +kernel
theorem dX4_forget_10 : decode cX4_forget 10 = .ok (.invokevirtual 54, 3) := by decide +kernel
theorem dX4_forget_13 : decode cX4_forget 13 = .ok (.ireturn, 1) := by decide +kernel
theorem dX4_forget_14 : decode cX4_forget 14 = .ok (.iload_n 1, 1) := by decide +kernel
theorem dX4_forget_15 : decode cX4_forget 15 = .ok (.ifCond .ne 13, 3) := by decide +kernel
theorem dX4_forget_18 : decode cX4_forget 18 = .ok (.aload_n 0, 1) := by decide +kernel
theorem dX4_forget_19 : decode cX4_forget 19 = .ok (.getfield 12, 3) := by decide +kernel
theorem dX4_forget_22 : decode cX4_forget 22 = .ok (.getfield 190, 3) := by decide +kernel
theorem dX4_forget_25 : decode cX4_forget 25 = .ok (.goto 10, 3) := by decide +kernel
theorem dX4_forget_28 : decode cX4_forget 28 = .ok (.aload_n 0, 1) := by decide +kernel
theorem dX4_forget_29 : decode cX4_forget 29 = .ok (.getfield 12, 3) := by decide +kernel
theorem dX4_forget_32 : decode cX4_forget 32 = .ok (.getfield 199, 3) := by decide +kernel
theorem dX4_forget_35 : decode cX4_forget 35 = .ok (.istore_n 2, 1) := by decide +kernel
theorem dX4_forget_36 : decode cX4_forget 36 = .ok (.iload_n 1, 1) := by decide +kernel
theorem dX4_forget_37 : decode cX4_forget 37 = .ok (.ifCond .ne 14, 3) := by decide +kernel
theorem dX4_forget_40 : decode cX4_forget 40 = .ok (.aload_n 0, 1) := by decide +kernel
theorem dX4_forget_41 : decode cX4_forget 41 = .ok (.getfield 12, 3) := by decide +kernel
theorem dX4_forget_44 : decode cX4_forget 44 = .ok (.iconst 0, 1) := by decide +kernel
theorem dX4_forget_45 : decode cX4_forget 45 = .ok (.putfield 190, 3) := by decide +kernel
theorem dX4_forget_48 : decode cX4_forget 48 = .ok (.goto 11, 3) := by decide +kernel
theorem dX4_forget_51 : decode cX4_forget 51 = .ok (.aload_n 0, 1) := by decide +kernel
theorem dX4_forget_52 : decode cX4_forget 52 = .ok (.getfield 12, 3) := by decide +kernel
theorem dX4_forget_55 : decode cX4_forget 55 = .ok (.iconst 0, 1) := by decide +kernel
theorem dX4_forget_56 : decode cX4_forget 56 = .ok (.putfield 199, 3) := by decide +kernel
theorem dX4_forget_59 : decode cX4_forget 59 = .ok (.iload_n 2, 1) := by decide +kernel
theorem dX4_forget_60 : decode cX4_forget 60 = .ok (.ireturn, 1) := by decide +kernel
theorem dX4_is_0 : decode cX4_is 0 = .ok (.aload_n 0, 1) := by decide +kernel
theorem dX4_is_1 : decode cX4_is 1 = .ok (.getfield 12, 3) := by decide +kernel
theorem dX4_is_4 : decode cX4_is 4 = .ok (.iload_n 1, 1) := by decide +kernel
theorem dX4_is_5 : decode cX4_is 5 = .ok (.invokevirtual 105, 3) := by decide +kernel
theorem dX4_is_8 : decode cX4_is 8 = .ok (.ifCond .ne 8, 3) := by decide +kernel
theorem dX4_is_11 : decode cX4_is 11 = .ok (.aload_n 0, 1) := by decide +kernel
theorem dX4_is_12 : decode cX4_is 12 = .ok (.invokevirtual 54, 3) := by decide +kernel
theorem dX4_is_15 : decode cX4_is 15 = .ok (.ireturn, 1) := by decide +kernel
theorem dX4_is_16 : decode cX4_is 16 = .ok (.aload_n 0, 1) := by decide +kernel
theorem dX4_is_17 : decode cX4_is 17 = .ok (.iload_n 1, 1) := by decide +kernel
theorem dX4_is_18 : decode cX4_is 18 = .ok (.invokevirtual 206, 3) := by decide +kernel
theorem dX4_is_21 : decode cX4_is 21 = .ok (.ireturn, 1) := by decide +kernel
theorem dX4_look_0 : decode cX4_look 0 = .ok (.aload_n 0, 1) := by decide +kernel
theorem dX4_look_1 : decode cX4_look 1 = .ok (.getfield 12, 3) := by decide +kernel
theorem dX4_look_4 : decode cX4_look 4 = .ok (.iload_n 1, 1) := by decide +kernel
theorem dX4_look_5 : decode cX4_look 5 = .ok (.invokevirtual 105, 3) := by decide +kernel
theorem dX4_look_8 : decode cX4_look 8 = .ok (.ifCond .ne 8, 3) := by decide +kernel
theorem dX4_look_11 : decode cX4_look 11 = .ok (.aload_n 0, 1) := by decide +kernel
theorem dX4_look_12 : decode cX4_look 12 = .ok (.invokevirtual 54, 3) := by decide +kernel
theorem dX4_look_15 : decode cX4_look 15 = .ok (.ireturn, 1) := by decide +kernel
theorem dX4_look_16 : decode cX4_look 16 = .ok (.aload_n 0, 1) := by decide +kernel
theorem dX4_look_17 : decode cX4_look 17 = .ok (.iload_n 1, 1) := by decide +kernel
theorem dX4_look_18 : decode cX4_look 18 = .ok (.invokevirtual 206, 3) := by decide +kernel
theorem dX4_look_21 : decode cX4_look 21 = .ok (.istore_n 2, 1) := by decide +kernel
theorem dX4_look_22 : decode cX4_look 22 = .ok (.iload_n 2, 1) := by decide +kernel
theorem dX4_look_23 : decode cX4_look 23 = .ok (.ifCond .ne 5, 3) := by decide +kernel
theorem dX4_look_26 : decode cX4_look 26 = .ok (.iconst (-1), 1) := by decide +kernel
theorem dX4_look_27 : decode cX4_look 27 = .ok (.ireturn, 1) := by decide +kernel
theorem dX4_look_28 : decode cX4_look 28 = .ok (.bipush 7, 2) := by decide +kernel
theorem dX4_look_30 : decode cX4_look 30 = .ok (.istore_n 3, 1) := by decide +kernel
theorem dX4_look_31 : decode cX4_look 31 = .ok (.iconst (-1), 1) := by decide +kernel
theorem dX4_look_32 : decode cX4_look 32 = .ok (.istore 4, 2) := by decide +kernel
theorem dX4_look_34 : decode cX4_look 34 = .ok (.iconst 0, 1) := by decide +kernel
theorem dX4_look_35 : decode cX4_look 35 = .ok (.istore 5, 2) := by decide +kernel
theorem dX4_look_37 : decode cX4_look 37 = .ok (.iload 5, 2) := by decide +kernel
theorem dX4_look_39 : decode cX4_look 39 = .ok (.iconst 2, 1) := by decide +kernel
theorem dX4_look_40 : decode cX4_look 40 = .ok (.if_icmp .ge 63, 3) := by decide +kernel
theorem dX4_look_43 : decode cX4_look 43 = .ok (.iconst 0, 1) := by decide +kernel
theorem dX4_look_44 : decode cX4_look 44 = .ok (.istore 6, 2) := by decide +kernel
theorem dX4_look_46 : decode cX4_look 46 = .ok (.iload 6, 2) := by decide +kernel
theorem dX4_look_48 : decode cX4_look 48 = .ok (.bipush 30, 2) := by decide +kernel
theorem dX4_look_50 : decode cX4_look 50 = .ok (.if_icmp .gt 47, 3) := by decide +kernel
theorem dX4_look_53 : decode cX4_look 53 = .ok (.iload_n 2, 1) := by decide +kernel
theorem dX4_look_54 : decode cX4_look 54 = .ok (.aload_n 0, 1) := by decide +kernel
theorem dX4_look_55 : decode cX4_look 55 = .ok (.getfield 12, 3) := by decide +kernel
theorem dX4_look_58 : decode cX4_look 58 = .ok (.getfield 112, 3) := by decide +kernel
theorem dX4_look_61 : decode cX4_look 61 = .ok (.iload_n 1, 1) := by decide +kernel
theorem dX4_look_62 : decode cX4_look 62 = .ok (.iaload, 1) := by decide +kernel
theorem dX4_look_63 : decode cX4_look 63 = .ok (.iload 5, 2) := by decide +kernel
theorem dX4_look_65 : decode cX4_look 65 = .ok (.iload 6, 2) := by decide +kernel
theorem dX4_look_67 : decode cX4_look 67 = .ok (.invokestatic 209, 3) := by decide +kernel
theorem dX4_look_70 : decode cX4_look 70 = .ok (.istore 7, 2) := by decide +kernel
theorem dX4_look_72 : decode cX4_look 72 = .ok (.iload 7, 2) := by decide +kernel
theorem dX4_look_74 : decode cX4_look 74 = .ok (.iload_n 3, 1) := by decide +kernel
theorem dX4_look_75 : decode cX4_look 75 = .ok (.if_icmp .ge 16, 3) := by decide +kernel
theorem dX4_look_78 : decode cX4_look 78 = .ok (.iload 7, 2) := by decide +kernel
theorem dX4_look_80 : decode cX4_look 80 = .ok (.istore_n 3, 1) := by decide +kernel
theorem dX4_look_81 : decode cX4_look 81 = .ok (.bipush 100, 2) := by decide +kernel
theorem dX4_look_83 : decode cX4_look 83 = .ok (.iload 5, 2) := by decide +kernel
theorem dX4_look_85 : decode cX4_look 85 = .ok (.imul, 1) := by decide +kernel
theorem dX4_look_86 : decode cX4_look 86 = .ok (.iload 6, 2) := by decide +kernel
theorem dX4_look_88 : decode cX4_look 88 = .ok (.iadd, 1) := by decide +kernel
theorem dX4_look_89 : decode cX4_look 89 = .ok (.istore 4, 2) := by decide +kernel
theorem dX4_look_91 : decode cX4_look 91 = .ok (.iinc 6 1, 3) := by decide +kernel
theorem dX4_look_94 : decode cX4_look 94 = .ok (.goto (-48), 3) := by decide +kernel
theorem dX4_look_97 : decode cX4_look 97 = .ok (.iinc 5 1, 3) := by decide +kernel
theorem dX4_look_100 : decode cX4_look 100 = .ok (.goto (-63), 3) := by decide +kernel
theorem dX4_look_103 : decode cX4_look 103 = .ok (.iload 4, 2) := by decide +kernel
theorem dX4_look_105 : decode cX4_look 105 = .ok (.ireturn, 1) := by decide +kernel
theorem dX4_swaps_0 : decode cX4_swaps 0 = .ok (.iload_n 1, 1) := by decide +kernel
theorem dX4_swaps_1 : decode cX4_swaps 1 = .ok (.iconst (-1), 1) := by decide +kernel
theorem dX4_swaps_2 : decode cX4_swaps 2 = .ok (.if_icmp .ge 8, 3) := by decide +kernel
theorem dX4_swaps_5 : decode cX4_swaps 5 = .ok (.aload_n 0, 1) := by decide +kernel
theorem dX4_swaps_6 : decode cX4_swaps 6 = .ok (.invokevirtual 162, 3) := by decide +kernel
theorem dX4_swaps_9 : decode cX4_swaps 9 = .ok (.ireturn, 1) := by decide +kernel
theorem dX4_swaps_10 : decode cX4_swaps 10 = .ok (.iconst 0, 1) := by decide +kernel
theorem dX4_swaps_11 : decode cX4_swaps 11 = .ok (.istore_n 2, 1) := by decide +kernel
theorem dX4_swaps_12 : decode cX4_swaps 12 = .ok (.iconst 0, 1) := by decide +kernel
theorem dX4_swaps_13 : decode cX4_swaps 13 = .ok (.istore_n 3, 1) := by decide +kernel
theorem dX4_swaps_14 : decode cX4_swaps 14 = .ok (.iload_n 3, 1) := by decide +kernel
theorem dX4_swaps_15 : decode cX4_swaps 15 = .ok (.aload_n 0, 1) := by decide +kernel
theorem dX4_swaps_16 : decode cX4_swaps 16 = .ok (.getfield 12, 3) := by decide +kernel
theorem dX4_swaps_19 : decode cX4_swaps 19 = .ok (.getfield 58, 3) := by decide +kernel
theorem dX4_swaps_22 : decode cX4_swaps 22 = .ok (.if_icmp .ge 61, 3) := by decide +kernel
theorem dX4_swaps_25 : decode cX4_swaps 25 = .ok (.iload_n 3, 1) := by decide +kernel
theorem dX4_swaps_26 : decode cX4_swaps 26 = .ok (.iconst 1, 1) := by decide +kernel
theorem dX4_swaps_27 : decode cX4_swaps 27 = .ok (.iadd, 1) := by decide +kernel
theorem dX4_swaps_28 : decode cX4_swaps 28 = .ok (.istore 4, 2) := by decide +kernel
theorem dX4_swaps_30 : decode cX4_swaps 30 = .ok (.iload 4, 2) := by decide +kernel
theorem dX4_swaps_32 : decode cX4_swaps 32 = .ok (.aload_n 0, 1) := by decide +kernel
theorem dX4_swaps_33 : decode cX4_swaps 33 = .ok (.getfield 12, 3) := by decide +kernel
theorem dX4_swaps_36 : decode cX4_swaps 36 = .ok (.getfield 58, 3) := by decide +kernel
theorem dX4_swaps_39 : decode cX4_swaps 39 = .ok (.if_icmp .ge 38, 3) := by decide +kernel
theorem dX4_swaps_42 : decode cX4_swaps 42 = .ok (.aload_n 0, 1) := by decide +kernel
theorem dX4_swaps_43 : decode cX4_swaps 43 = .ok (.iload_n 3, 1) := by decide +kernel
theorem dX4_swaps_44 : decode cX4_swaps 44 = .ok (.iload 4, 2) := by decide +kernel
theorem dX4_swaps_46 : decode cX4_swaps 46 = .ok (.invokevirtual 213, 3) := by decide +kernel
theorem dX4_swaps_49 : decode cX4_swaps 49 = .ok (.ifCond .ne 6, 3) := by decide +kernel
theorem dX4_swaps_52 : decode cX4_swaps 52 = .ok (.goto 19, 3) := by decide +kernel
theorem dX4_swaps_55 : decode cX4_swaps 55 = .ok (.iload_n 2, 1) := by decide +kernel
theorem dX4_swaps_56 : decode cX4_swaps 56 = .ok (.iload_n 1, 1) := by decide +kernel
theorem dX4_swaps_57 : decode cX4_swaps 57 = .ok (.if_icmp .ne 11, 3) := by decide +kernel
theorem dX4_swaps_60 : decode cX4_swaps 60 = .ok (.bipush 10, 2) := by decide +kernel
theorem dX4_swaps_62 : decode cX4_swaps 62 = .ok (.iload_n 3, 1) := by decide +kernel
theorem dX4_swaps_63 : decode cX4_swaps 63 = .ok (.imul, 1) := by decide +kernel
theorem dX4_swaps_64 : decode cX4_swaps 64 = .ok (.iload 4, 2) := by decide +kernel
theorem dX4_swaps_66 : decode cX4_swaps 66 = .ok (.iadd, 1) := by decide +kernel
theorem dX4_swaps_67 : decode cX4_swaps 67 = .ok (.ireturn, 1) := by decide +kernel
theorem dX4_swaps_68 : decode cX4_swaps 68 = .ok (.iinc 2 1, 3) := by decide +kernel
theorem dX4_swaps_71 : decode cX4_swaps 71 = .ok (.iinc 4 1, 3) := by decide +kernel
theorem dX4_swaps_74 : decode cX4_swaps 74 = .ok (.goto (-44), 3) := by decide +kernel
theorem dX4_swaps_77 : decode cX4_swaps 77 = .ok (.iinc 3 1, 3) := by decide +kernel
theorem dX4_swaps_80 : decode cX4_swaps 80 = .ok (.goto (-66), 3) := by decide +kernel
theorem dX4_swaps_83 : decode cX4_swaps 83 = .ok (.iload_n 1, 1) := by decide +kernel
theorem dX4_swaps_84 : decode cX4_swaps 84 = .ok (.iconst (-1), 1) := by decide +kernel
theorem dX4_swaps_85 : decode cX4_swaps 85 = .ok (.if_icmp .ne 7, 3) := by decide +kernel
theorem dX4_swaps_88 : decode cX4_swaps 88 = .ok (.iload_n 2, 1) := by decide +kernel
theorem dX4_swaps_89 : decode cX4_swaps 89 = .ok (.goto 5, 3) := by decide +kernel
theorem dX4_swaps_92 : decode cX4_swaps 92 = .ok (.bipush (-5), 2) := by decide +kernel
theorem dX4_swaps_94 : decode cX4_swaps 94 = .ok (.ireturn, 1) := by decide +kernel
theorem dX4_inspector_0 : decode cX4_inspector 0 = .ok (.aload_n 0, 1) := by decide +kernel
theorem dX4_inspector_1 : decode cX4_inspector 1 = .ok (.getfield 12, 3) := by decide +kernel
theorem dX4_inspector_4 : decode cX4_inspector 4 = .ok (.iload_n 1, 1) := by decide +kernel
theorem dX4_inspector_5 : decode cX4_inspector 5 = .ok (.invokevirtual 105, 3) := by decide +kernel
theorem dX4_inspector_8 : decode cX4_inspector 8 = .ok (.ifCond .eq 10, 3) := by decide +kernel
theorem dX4_inspector_11 : decode cX4_inspector 11 = .ok (.iload_n 2, 1) := by decide +kernel
theorem dX4_inspector_12 : decode cX4_inspector 12 = .ok (.invokestatic 139, 3) := by decide +kernel
theorem dX4_inspector_15 : decode cX4_inspector 15 = .ok (.ifCond .ne 8, 3) := by decide +kernel
theorem dX4_inspector_18 : decode cX4_inspector 18 = .ok (.aload_n 0, 1) := by decide +kernel
theorem dX4_inspector_19 : decode cX4_inspector 19 = .ok (.invokevirtual 54, 3) := by decide +kernel
theorem dX4_inspector_22 : decode cX4_inspector 22 = .ok (.ireturn, 1) := by decide +kernel
theorem dX4_inspector_23 : decode cX4_inspector 23 = .ok (.aload_n 0, 1) := by decide +kernel
theorem dX4_inspector_24 : decode cX4_inspector 24 = .ok (.getfield 12, 3) := by decide +kernel
theorem dX4_inspector_27 : decode cX4_inspector 27 = .ok (.iload_n 1, 1) := by decide +kernel
theorem dX4_inspector_28 : decode cX4_inspector 28 = .ok (.iload_n 2, 1) := by decide +kernel
theorem dX4_inspector_29 : decode cX4_inspector 29 = .ok (.invokevirtual 217, 3) := by decide +kernel
theorem dX4_inspector_32 : decode cX4_inspector 32 = .ok (.ifCond .ne 8, 3) := by decide +kernel
theorem dX4_inspector_35 : decode cX4_inspector 35 = .ok (.aload_n 0, 1) := by decide +kernel
theorem dX4_inspector_36 : decode cX4_inspector 36 = .ok (.invokevirtual 121, 3) := by decide +kernel
theorem dX4_inspector_39 : decode cX4_inspector 39 = .ok (.ireturn, 1) := by decide +kernel
theorem dX4_inspector_40 : decode cX4_inspector 40 = .ok (.aload_n 0, 1) := by decide +kernel
theorem dX4_inspector_41 : decode cX4_inspector 41 = .ok (.getfield 12, 3) := by decide +kernel
theorem dX4_inspector_44 : decode cX4_inspector 44 = .ok (.iload_n 1, 1) := by decide +kernel
theorem dX4_inspector_45 : decode cX4_inspector 45 = .ok (.iload_n 2, 1) := by decide +kernel
theorem dX4_inspector_46 : decode cX4_inspector 46 = .ok (.aload_n 0, 1) := by decide +kernel
theorem dX4_inspector_47 : decode cX4_inspector 47 = .ok (.getfield 12, 3) := by decide +kernel
theorem dX4_inspector_50 : decode cX4_inspector 50 = .ok (.getfield 115, 3) := by decide +kernel
theorem dX4_inspector_53 : decode cX4_inspector 53 = .ok (.invokevirtual 220, 3) := by decide +kernel
theorem dX4_inspector_56 : decode cX4_inspector 56 = .ok (.istore_n 3, 1) := by decide +kernel
theorem dX4_inspector_57 : decode cX4_inspector 57 = .ok (.aload_n 0, 1) := by decide +kernel
theorem dX4_inspector_58 : decode cX4_inspector 58 = .ok (.getfield 12, 3) := by decide +kernel
theorem dX4_inspector_61 : decode cX4_inspector 61 = .ok (.getfield 130, 3) := by decide +kernel
theorem dX4_inspector_64 : decode cX4_inspector 64 = .ok (.iload_n 1, 1) := by decide +kernel
theorem dX4_inspector_65 : decode cX4_inspector 65 = .ok (.iaload, 1) := by decide +kernel
theorem dX4_inspector_66 : decode cX4_inspector 66 = .ok (.iconst 3, 1) := by decide +kernel
theorem dX4_inspector_67 : decode cX4_inspector 67 = .ok (.if_icmp .ne 7, 3) := by decide +kernel
theorem dX4_inspector_70 : decode cX4_inspector 70 = .ok (.iconst 1, 1) := by decide +kernel
theorem dX4_inspector_71 : decode cX4_inspector 71 = .ok (.goto 4, 3) := by decide +kernel
theorem dX4_inspector_74 : decode cX4_inspector 74 = .ok (.iconst 0, 1) := by decide +kernel
theorem dX4_inspector_75 : decode cX4_inspector 75 = .ok (.istore 4, 2) := by decide +kernel
theorem dX4_inspector_77 : decode cX4_inspector 77 = .ok (.iconst 0, 1) := by decide +kernel
theorem dX4_inspector_78 : decode cX4_inspector 78 = .ok (.istore 5, 2) := by decide +kernel
theorem dX4_inspector_80 : decode cX4_inspector 80 = .ok (.iconst 0, 1) := by decide +kernel
theorem dX4_inspector_81 : decode cX4_inspector 81 = .ok (.istore 6, 2) := by decide +kernel
theorem dX4_inspector_83 : decode cX4_inspector 83 = .ok (.iload 6, 2) := by decide +kernel
theorem dX4_inspector_85 : decode cX4_inspector 85 = .ok (.iconst 4, 1) := by decide +kernel
theorem dX4_inspector_86 : decode cX4_inspector 86 = .ok (.if_icmp .ge 53, 3) := by decide +kernel
theorem dX4_inspector_89 : decode cX4_inspector 89 = .ok (.iload 6, 2) := by decide +kernel
theorem dX4_inspector_91 : decode cX4_inspector 91 = .ok (.iconst 1, 1) := by decide +kernel
theorem dX4_inspector_92 : decode cX4_inspector 92 = .ok (.iand, 1) := by decide +kernel
theorem dX4_inspector_93 : decode cX4_inspector 93 = .ok (.iconst 1, 1) := by decide +kernel
theorem dX4_inspector_94 : decode cX4_inspector 94 = .ok (.if_icmp .ne 7, 3) := by decide +kernel
theorem dX4_inspector_97 : decode cX4_inspector 97 = .ok (.iconst 1, 1) := by decide +kernel
theorem dX4_inspector_98 : decode cX4_inspector 98 = .ok (.goto 4, 3) := by decide +kernel
theorem dX4_inspector_101 : decode cX4_inspector 101 = .ok (.iconst 0, 1) := by decide +kernel
theorem dX4_inspector_102 : decode cX4_inspector 102 = .ok (.iload 6, 2) := by decide +kernel
theorem dX4_inspector_104 : decode cX4_inspector 104 = .ok (.iconst 2, 1) := by decide +kernel
theorem dX4_inspector_105 : decode cX4_inspector 105 = .ok (.iand, 1) := by decide +kernel
theorem dX4_inspector_106 : decode cX4_inspector 106 = .ok (.iconst 2, 1) := by decide +kernel
theorem dX4_inspector_107 : decode cX4_inspector 107 = .ok (.if_icmp .ne 7, 3) := by decide +kernel
theorem dX4_inspector_110 : decode cX4_inspector 110 = .ok (.iconst 1, 1) := by decide +kernel
theorem dX4_inspector_111 : decode cX4_inspector 111 = .ok (.goto 4, 3) := by decide +kernel
theorem dX4_inspector_114 : decode cX4_inspector 114 = .ok (.iconst 0, 1) := by decide +kernel
theorem dX4_inspector_115 : decode cX4_inspector 115 = .ok (.iload_n 3, 1) := by decide +kernel
theorem dX4_inspector_116 : decode cX4_inspector 116 = .ok (.iload 4, 2) := by decide +kernel
theorem dX4_inspector_118 : decode cX4_inspector 118 = .ok (.invokestatic 223, 3) := by decide +kernel
theorem dX4_inspector_121 : decode cX4_inspector 121 = .ok (.ifCond .eq 12, 3) := by decide +kernel
theorem dX4_inspector_124 : decode cX4_inspector 124 = .ok (.iload 5, 2) := by decide +kernel
theorem dX4_inspector_126 : decode cX4_inspector 126 = .ok (.iconst 1, 1) := by decide +kernel
theorem dX4_inspector_127 : decode cX4_inspector 127 = .ok (.iload 6, 2) := by decide +kernel
theorem dX4_inspector_129 : decode cX4_inspector 129 = .ok (.ishl, 1) := by decide +kernel
theorem dX4_inspector_130 : decode cX4_inspector 130 = .ok (.ior, 1) := by decide +kernel
theorem dX4_inspector_131 : decode cX4_inspector 131 = .ok (.istore 5, 2) := by decide +kernel
theorem dX4_inspector_133 : decode cX4_inspector 133 = .ok (.iinc 6 1, 3) := by decide +kernel
theorem dX4_inspector_136 : decode cX4_inspector 136 = .ok (.goto (-53), 3) := by decide +kernel
theorem dX4_inspector_139 : decode cX4_inspector 139 = .ok (.iload 5, 2) := by decide +kernel
theorem dX4_inspector_141 : decode cX4_inspector 141 = .ok (.ireturn, 1) := by decide +kernel
theorem dX4_noons_0 : decode cX4_noons 0 = .ok (.aload_n 0, 1) := by decide +kernel
theorem dX4_noons_1 : decode cX4_noons 1 = .ok (.getfield 12, 3) := by decide +kernel
theorem dX4_noons_4 : decode cX4_noons 4 = .ok (.iload_n 1, 1) := by decide +kernel
theorem dX4_noons_5 : decode cX4_noons 5 = .ok (.invokevirtual 105, 3) := by decide +kernel
theorem dX4_noons_8 : decode cX4_noons 8 = .ok (.ifCond .eq 20, 3) := by decide +kernel
theorem dX4_noons_11 : decode cX4_noons 11 = .ok (.iload_n 2, 1) := by decide +kernel
theorem dX4_noons_12 : decode cX4_noons 12 = .ok (.invokestatic 139, 3) := by decide +kernel
theorem dX4_noons_15 : decode cX4_noons 15 = .ok (.ifCond .eq 13, 3) := by decide +kernel
theorem dX4_noons_18 : decode cX4_noons 18 = .ok (.iload_n 3, 1) := by decide +kernel
theorem dX4_noons_19 : decode cX4_noons 19 = .ok (.iconst 0, 1) := by decide +kernel
theorem dX4_noons_20 : decode cX4_noons 20 = .ok (.bipush 10, 2) := by decide +kernel
theorem dX4_noons_22 : decode cX4_noons 22 = .ok (.invokestatic 65, 3) := by decide +kernel
theorem dX4_noons_25 : decode cX4_noons 25 = .ok (.ifCond .ne 8, 3) := by decide +kernel
theorem dX4_noons_28 : decode cX4_noons 28 = .ok (.aload_n 0, 1) := by decide +kernel
theorem dX4_noons_29 : decode cX4_noons 29 = .ok (.invokevirtual 54, 3) := by decide +kernel
theorem dX4_noons_32 : decode cX4_noons 32 = .ok (.ireturn, 1) := by decide +kernel
theorem dX4_noons_33 : decode cX4_noons 33 = .ok (.aload_n 0, 1) := by decide +kernel
theorem dX4_noons_34 : decode cX4_noons 34 = .ok (.getfield 12, 3) := by decide +kernel
theorem dX4_noons_37 : decode cX4_noons 37 = .ok (.iload_n 1, 1) := by decide +kernel
theorem dX4_noons_38 : decode cX4_noons 38 = .ok (.iload_n 2, 1) := by decide +kernel
theorem dX4_noons_39 : decode cX4_noons 39 = .ok (.aload_n 0, 1) := by decide +kernel
theorem dX4_noons_40 : decode cX4_noons 40 = .ok (.getfield 12, 3) := by decide +kernel
theorem dX4_noons_43 : decode cX4_noons 43 = .ok (.getfield 115, 3) := by decide +kernel
theorem dX4_noons_46 : decode cX4_noons 46 = .ok (.iconst 2, 1) := by decide +kernel
theorem dX4_noons_47 : decode cX4_noons 47 = .ok (.idiv, 1) := by decide +kernel
theorem dX4_noons_48 : decode cX4_noons 48 = .ok (.invokevirtual 220, 3) := by decide +kernel
theorem dX4_noons_51 : decode cX4_noons 51 = .ok (.istore 4, 2) := by decide +kernel
theorem dX4_noons_53 : decode cX4_noons 53 = .ok (.aload_n 0, 1) := by decide +kernel
theorem dX4_noons_54 : decode cX4_noons 54 = .ok (.getfield 12, 3) := by decide +kernel
theorem dX4_noons_57 : decode cX4_noons 57 = .ok (.iload_n 1, 1) := by decide +kernel
theorem dX4_noons_58 : decode cX4_noons 58 = .ok (.iload_n 2, 1) := by decide +kernel
theorem dX4_noons_59 : decode cX4_noons 59 = .ok (.aload_n 0, 1) := by decide +kernel
theorem dX4_noons_60 : decode cX4_noons 60 = .ok (.getfield 12, 3) := by decide +kernel
theorem dX4_noons_63 : decode cX4_noons 63 = .ok (.getfield 115, 3) := by decide +kernel
theorem dX4_noons_66 : decode cX4_noons 66 = .ok (.invokevirtual 220, 3) := by decide +kernel
theorem dX4_noons_69 : decode cX4_noons 69 = .ok (.istore 5, 2) := by decide +kernel
theorem dX4_noons_71 : decode cX4_noons 71 = .ok (.aload_n 0, 1) := by decide +kernel
theorem dX4_noons_72 : decode cX4_noons 72 = .ok (.iload_n 3, 1) := by decide +kernel
theorem dX4_noons_73 : decode cX4_noons 73 = .ok (.iload 4, 2) := by decide +kernel
theorem dX4_noons_75 : decode cX4_noons 75 = .ok (.imul, 1) := by decide +kernel
theorem dX4_noons_76 : decode cX4_noons 76 = .ok (.bipush 10, 2) := by decide +kernel
theorem dX4_noons_78 : decode cX4_noons 78 = .ok (.iload_n 3, 1) := by decide +kernel
theorem dX4_noons_79 : decode cX4_noons 79 = .ok (.isub, 1) := by decide +kernel
theorem dX4_noons_80 : decode cX4_noons 80 = .ok (.iload 5, 2) := by decide +kernel
theorem dX4_noons_82 : decode cX4_noons 82 = .ok (.imul, 1) := by decide +kernel
theorem dX4_noons_83 : decode cX4_noons 83 = .ok (.iadd, 1) := by decide +kernel
theorem dX4_noons_84 : decode cX4_noons 84 = .ok (.bipush 10, 2) := by decide +kernel
theorem dX4_noons_86 : decode cX4_noons 86 = .ok (.invokevirtual 227, 3) := by decide +kernel
theorem dX4_noons_89 : decode cX4_noons 89 = .ok (.iconst 1, 1) := by decide +kernel
theorem dX4_noons_90 : decode cX4_noons 90 = .ok (.ireturn, 1) := by decide +kernel
theorem dX4_years_0 : decode cX4_years 0 = .ok (.iload_n 1, 1) := by decide +kernel
theorem dX4_years_1 : decode cX4_years 1 = .ok (.iconst 0, 1) := by decide +kernel
theorem dX4_years_2 : decode cX4_years 2 = .ok (.ldc 231, 2) := by decide +kernel
theorem dX4_years_4 : decode cX4_years 4 = .ok (.invokestatic 65, 3) := by decide +kernel
theorem dX4_years_7 : decode cX4_years 7 = .ok (.ifCond .eq 13, 3) := by decide +kernel
theorem dX4_years_10 : decode cX4_years 10 = .ok (.iload_n 2, 1) := by decide +kernel
theorem dX4_years_11 : decode cX4_years 11 = .ok (.iconst 0, 1) := by decide +kernel
theorem dX4_years_12 : decode cX4_years 12 = .ok (.bipush 60, 2) := by decide +kernel
theorem dX4_years_14 : decode cX4_years 14 = .ok (.invokestatic 65, 3) := by decide +kernel
theorem dX4_years_17 : decode cX4_years 17 = .ok (.ifCond .ne 8, 3) := by decide +kernel
theorem dX4_years_20 : decode cX4_years 20 = .ok (.aload_n 0, 1) := by decide +kernel
theorem dX4_years_21 : decode cX4_years 21 = .ok (.invokevirtual 54, 3) := by decide +kernel
theorem dX4_years_24 : decode cX4_years 24 = .ok (.ireturn, 1) := by decide +kernel
theorem dX4_years_25 : decode cX4_years 25 = .ok (.iload_n 1, 1) := by decide +kernel
theorem dX4_years_26 : decode cX4_years 26 = .ok (.i2l, 1) := by decide +kernel
theorem dX4_years_27 : decode cX4_years 27 = .ok (.lstore_n 3, 1) := by decide +kernel
theorem dX4_years_28 : decode cX4_years 28 = .ok (.iconst 0, 1) := by decide +kernel
theorem dX4_years_29 : decode cX4_years 29 = .ok (.istore 5, 2) := by decide +kernel
theorem dX4_years_31 : decode cX4_years 31 = .ok (.iconst 0, 1) := by decide +kernel
theorem dX4_years_32 : decode cX4_years 32 = .ok (.istore 6, 2) := by decide +kernel
theorem dX4_years_34 : decode cX4_years 34 = .ok (.iload 6, 2) := by decide +kernel
theorem dX4_years_36 : decode cX4_years 36 = .ok (.iload_n 2, 1) := by decide +kernel
theorem dX4_years_37 : decode cX4_years 37 = .ok (.if_icmp .ge 45, 3) := by decide +kernel
theorem dX4_years_40 : decode cX4_years 40 = .ok (.lload_n 3, 1) := by decide +kernel
theorem dX4_years_41 : decode cX4_years 41 = .ok (.ldc2_w 232, 3) := by decide +kernel
theorem dX4_years_44 : decode cX4_years 44 = .ok (.lmul, 1) := by decide +kernel
theorem dX4_years_45 : decode cX4_years 45 = .ok (.ldc2_w 234, 3) := by decide +kernel
theorem dX4_years_48 : decode cX4_years 48 = .ok (.ladd, 1) := by decide +kernel
theorem dX4_years_49 : decode cX4_years 49 = .ok (.ldc2_w 236, 3) := by decide +kernel
theorem dX4_years_52 : decode cX4_years 52 = .ok (.lrem, 1) := by decide +kernel
theorem dX4_years_53 : decode cX4_years 53 = .ok (.lstore_n 3, 1) := by decide +kernel
theorem dX4_years_54 : decode cX4_years 54 = .ok (.iload 5, 2) := by decide +kernel
theorem dX4_years_56 : decode cX4_years 56 = .ok (.aload_n 0, 1) := by decide +kernel
theorem dX4_years_57 : decode cX4_years 57 = .ok (.getfield 12, 3) := by decide +kernel
theorem dX4_years_60 : decode cX4_years 60 = .ok (.lload_n 3, 1) := by decide +kernel
theorem dX4_years_61 : decode cX4_years 61 = .ok (.ldc2_w 238, 3) := by decide +kernel
theorem dX4_years_64 : decode cX4_years 64 = .ok (.ldiv, 1) := by decide +kernel
theorem dX4_years_65 : decode cX4_years 65 = .ok (.ldc2_w 240, 3) := by decide +kernel
theorem dX4_years_68 : decode cX4_years 68 = .ok (.lrem, 1) := by decide +kernel
theorem dX4_years_69 : decode cX4_years 69 = .ok (.l2i, 1) := by decide +kernel
theorem dX4_years_70 : decode cX4_years 70 = .ok (.invokevirtual 242, 3) := by decide +kernel
theorem dX4_years_73 : decode cX4_years 73 = .ok (.iadd, 1) := by decide +kernel
theorem dX4_years_74 : decode cX4_years 74 = .ok (.istore 5, 2) := by decide +kernel
theorem dX4_years_76 : decode cX4_years 76 = .ok (.iinc 6 1, 3) := by decide +kernel
theorem dX4_years_79 : decode cX4_years 79 = .ok (.goto (-45), 3) := by decide +kernel
theorem dX4_years_82 : decode cX4_years 82 = .ok (.iload 5, 2) := by decide +kernel
theorem dX4_years_84 : decode cX4_years 84 = .ok (.ireturn, 1) := by decide +kernel
theorem dX4_part_0 : decode cX4_part 0 = .ok (.iload_n 1, 1) := by decide +kernel
theorem dX4_part_1 : decode cX4_part 1 = .ok (.iconst 0, 1) := by decide +kernel
theorem dX4_part_2 : decode cX4_part 2 = .ok (.iconst 1, 1) := by decide +kernel
theorem dX4_part_3 : decode cX4_part 3 = .ok (.invokestatic 65, 3) := by decide +kernel
theorem dX4_part_6 : decode cX4_part 6 = .ok (.ifCond .ne 9, 3) := by decide +kernel
theorem dX4_part_9 : decode cX4_part 9 = .ok (.aload_n 0, 1) := by decide +kernel
theorem dX4_part_10 : decode cX4_part 10 = .ok (.invokevirtual 54, 3) := by decide +kernel
theorem dX4_part_13 : decode cX4_part 13 = .ok (.i2l, 1) := by decide +kernel
theorem dX4_part_14 : decode cX4_part 14 = .ok (.lreturn, 1) := by decide +kernel
theorem dX4_part_15 : decode cX4_part 15 = .ok (.iload_n 1, 1) := by decide +kernel
theorem dX4_part_16 : decode cX4_part 16 = .ok (.ifCond .ne 11, 3) := by decide +kernel
theorem dX4_part_19 : decode cX4_part 19 = .ok (.aload_n 0, 1) := by decide +kernel
theorem dX4_part_20 : decode cX4_part 20 = .ok (.getfield 34, 3) := by decide +kernel
theorem dX4_part_23 : decode cX4_part 23 = .ok (.i2l, 1) := by decide +kernel
theorem dX4_part_24 : decode cX4_part 24 = .ok (.goto 8, 3) := by decide +kernel
theorem dX4_part_27 : decode cX4_part 27 = .ok (.aload_n 0, 1) := by decide +kernel
theorem dX4_part_28 : decode cX4_part 28 = .ok (.getfield 38, 3) := by decide +kernel
theorem dX4_part_31 : decode cX4_part 31 = .ok (.i2l, 1) := by decide +kernel
theorem dX4_part_32 : decode cX4_part 32 = .ok (.lreturn, 1) := by decide +kernel
theorem dX4_image_0 : decode cX4_image 0 = .ok (.iload_n 1, 1) := by decide +kernel
theorem dX4_image_1 : decode cX4_image 1 = .ok (.iconst 0, 1) := by decide +kernel
theorem dX4_image_2 : decode cX4_image 2 = .ok (.iconst 1, 1) := by decide +kernel
theorem dX4_image_3 : decode cX4_image 3 = .ok (.invokestatic 65, 3) := by decide +kernel
theorem dX4_image_6 : decode cX4_image 6 = .ok (.ifCond .ne 8, 3) := by decide +kernel
theorem dX4_image_9 : decode cX4_image 9 = .ok (.aload_n 0, 1) := by decide +kernel
theorem dX4_image_10 : decode cX4_image 10 = .ok (.invokevirtual 54, 3) := by decide +kernel
theorem dX4_image_13 : decode cX4_image 13 = .ok (.ireturn, 1) := by decide +kernel
theorem dX4_image_14 : decode cX4_image 14 = .ok (.aload_n 0, 1) := by decide +kernel
theorem dX4_image_15 : decode cX4_image 15 = .ok (.getfield 16, 3) := by decide +kernel
theorem dX4_image_18 : decode cX4_image 18 = .ok (.iload_n 1, 1) := by decide +kernel
theorem dX4_image_19 : decode cX4_image 19 = .ok (.aaload, 1) := by decide +kernel
theorem dX4_image_20 : decode cX4_image 20 = .ok (.ifnonnull 16, 3) := by decide +kernel
theorem dX4_image_23 : decode cX4_image 23 = .ok (.aload_n 0, 1) := by decide +kernel
theorem dX4_image_24 : decode cX4_image 24 = .ok (.getfield 16, 3) := by decide +kernel
theorem dX4_image_27 : decode cX4_image 27 = .ok (.iload_n 1, 1) := by decide +kernel
theorem dX4_image_28 : decode cX4_image 28 = .ok (.new 9, 3) := by decide +kernel
theorem dX4_image_31 : decode cX4_image 31 = .ok (.dup, 1) := by decide +kernel
theorem dX4_image_32 : decode cX4_image 32 = .ok (.invokespecial 11, 3) := by decide +kernel
theorem dX4_image_35 : decode cX4_image 35 = .ok (.aastore, 1) := by decide +kernel
theorem dX4_image_36 : decode cX4_image 36 = .ok (.aload_n 0, 1) := by decide +kernel
theorem dX4_image_37 : decode cX4_image 37 = .ok (.getfield 16, 3) := by decide +kernel
theorem dX4_image_40 : decode cX4_image 40 = .ok (.iload_n 1, 1) := by decide +kernel
theorem dX4_image_41 : decode cX4_image 41 = .ok (.aaload, 1) := by decide +kernel
theorem dX4_image_42 : decode cX4_image 42 = .ok (.aload_n 0, 1) := by decide +kernel
theorem dX4_image_43 : decode cX4_image 43 = .ok (.getfield 12, 3) := by decide +kernel
theorem dX4_image_46 : decode cX4_image 46 = .ok (.invokevirtual 95, 3) := by decide +kernel
theorem dX4_image_49 : decode cX4_image 49 = .ok (.iconst 1, 1) := by decide +kernel
theorem dX4_image_50 : decode cX4_image 50 = .ok (.ireturn, 1) := by decide +kernel
theorem dX4_from_0 : decode cX4_from 0 = .ok (.iload_n 1, 1) := by decide +kernel
theorem dX4_from_1 : decode cX4_from 1 = .ok (.iconst 0, 1) := by decide +kernel
theorem dX4_from_2 : decode cX4_from 2 = .ok (.iconst 1, 1) := by decide +kernel
theorem dX4_from_3 : decode cX4_from 3 = .ok (.invokestatic 65, 3) := by decide +kernel
theorem dX4_from_6 : decode cX4_from 6 = .ok (.ifCond .ne 8, 3) := by decide +kernel
theorem dX4_from_9 : decode cX4_from 9 = .ok (.aload_n 0, 1) := by decide +kernel
theorem dX4_from_10 : decode cX4_from 10 = .ok (.invokevirtual 54, 3) := by decide +kernel
theorem dX4_from_13 : decode cX4_from 13 = .ok (.ireturn, 1) := by decide +kernel
theorem dX4_from_14 : decode cX4_from 14 = .ok (.aload_n 0, 1) := by decide +kernel
theorem dX4_from_15 : decode cX4_from 15 = .ok (.getfield 16, 3) := by decide +kernel
theorem dX4_from_18 : decode cX4_from 18 = .ok (.iload_n 1, 1) := by decide +kernel
theorem dX4_from_19 : decode cX4_from 19 = .ok (.aaload, 1) := by decide +kernel
theorem dX4_from_20 : decode cX4_from 20 = .ok (.ifnonnull 8, 3) := by decide +kernel
theorem dX4_from_23 : decode cX4_from 23 = .ok (.aload_n 0, 1) := by decide +kernel
theorem dX4_from_24 : decode cX4_from 24 = .ok (.invokevirtual 121, 3) := by decide +kernel
theorem dX4_from_27 : decode cX4_from 27 = .ok (.ireturn, 1) := by decide +kernel
theorem dX4_from_28 : decode cX4_from 28 = .ok (.aload_n 0, 1) := by decide +kernel
theorem dX4_from_29 : decode cX4_from 29 = .ok (.getfield 12, 3) := by decide +kernel
theorem dX4_from_32 : decode cX4_from 32 = .ok (.aload_n 0, 1) := by decide +kernel
theorem dX4_from_33 : decode cX4_from 33 = .ok (.getfield 16, 3) := by decide +kernel
theorem dX4_from_36 : decode cX4_from 36 = .ok (.iload_n 1, 1) := by decide +kernel
theorem dX4_from_37 : decode cX4_from 37 = .ok (.aaload, 1) := by decide +kernel
theorem dX4_from_38 : decode cX4_from 38 = .ok (.invokevirtual 95, 3) := by decide +kernel
theorem dX4_from_41 : decode cX4_from 41 = .ok (.iconst 1, 1) := by decide +kernel
theorem dX4_from_42 : decode cX4_from 42 = .ok (.ireturn, 1) := by decide +kernel
theorem dX4_status_0 : decode cX4_status 0 = .ok (.iload_n 1, 1) := by decide +kernel
theorem dX4_status_1 : decode cX4_status 1 = .ok (.tableswitch 42 0 2 #[27, 32, 37], 27) := by decide +kernel
theorem dX4_status_28 : decode cX4_status 28 = .ok (.aload_n 0, 1) := by decide +kernel
theorem dX4_status_29 : decode cX4_status 29 = .ok (.getfield 41, 3) := by decide +kernel
theorem dX4_status_32 : decode cX4_status 32 = .ok (.ireturn, 1) := by decide +kernel
theorem dX4_status_33 : decode cX4_status 33 = .ok (.aload_n 0, 1) := by decide +kernel
theorem dX4_status_34 : decode cX4_status 34 = .ok (.getfield 44, 3) := by decide +kernel
theorem dX4_status_37 : decode cX4_status 37 = .ok (.ireturn, 1) := by decide +kernel
theorem dX4_status_38 : decode cX4_status 38 = .ok (.aload_n 0, 1) := by decide +kernel
theorem dX4_status_39 : decode cX4_status 39 = .ok (.getfield 47, 3) := by decide +kernel
theorem dX4_status_42 : decode cX4_status 42 = .ok (.ireturn, 1) := by decide +kernel
theorem dX4_status_43 : decode cX4_status 43 = .ok (.aload_n 0, 1) := by decide +kernel
theorem dX4_status_44 : decode cX4_status 44 = .ok (.dup, 1) := by decide +kernel
theorem dX4_status_45 : decode cX4_status 45 = .ok (.getfield 41, 3) := by decide +kernel
theorem dX4_status_48 : decode cX4_status 48 = .ok (.iconst 1, 1) := by decide +kernel
theorem dX4_status_49 : decode cX4_status 49 = .ok (.iadd, 1) := by decide +kernel
theorem dX4_status_50 : decode cX4_status 50 = .ok (.putfield 41, 3) := by decide +kernel
theorem dX4_status_53 : decode cX4_status 53 = .ok (.iconst (-1), 1) := by decide +kernel
theorem dX4_status_54 : decode cX4_status 54 = .ok (.ireturn, 1) := by decide +kernel
theorem dX4_count_0 : decode cX4_count 0 = .ok (.iload_n 1, 1) := by decide +kernel
theorem dX4_count_1 : decode cX4_count 1 = .ok (.iconst 0, 1) := by decide +kernel
theorem dX4_count_2 : decode cX4_count 2 = .ok (.bipush 8, 2) := by decide +kernel
theorem dX4_count_4 : decode cX4_count 4 = .ok (.invokestatic 65, 3) := by decide +kernel
theorem dX4_count_7 : decode cX4_count 7 = .ok (.ifCond .ne 8, 3) := by decide +kernel
theorem dX4_count_10 : decode cX4_count 10 = .ok (.aload_n 0, 1) := by decide +kernel
theorem dX4_count_11 : decode cX4_count 11 = .ok (.invokevirtual 54, 3) := by decide +kernel
theorem dX4_count_14 : decode cX4_count 14 = .ok (.ireturn, 1) := by decide +kernel
theorem dX4_count_15 : decode cX4_count 15 = .ok (.aload_n 0, 1) := by decide +kernel
theorem dX4_count_16 : decode cX4_count 16 = .ok (.iload_n 1, 1) := by decide +kernel
theorem dX4_count_17 : decode cX4_count 17 = .ok (.invokevirtual 245, 3) := by decide +kernel
theorem dX4_count_20 : decode cX4_count 20 = .ok (.ireturn, 1) := by decide +kernel
theorem dX4_digest_0 : decode cX4_digest 0 = .ok (.ldc2_w 248, 3) := by decide +kernel
theorem dX4_digest_3 : decode cX4_digest 3 = .ok (.lstore_n 1, 1) := by decide +kernel
theorem dX4_digest_4 : decode cX4_digest 4 = .ok (.iconst 0, 1) := by decide +kernel
theorem dX4_digest_5 : decode cX4_digest 5 = .ok (.istore_n 3, 1) := by decide +kernel
theorem dX4_digest_6 : decode cX4_digest 6 = .ok (.iload_n 3, 1) := by decide +kernel
theorem dX4_digest_7 : decode cX4_digest 7 = .ok (.bipush 8, 2) := by decide +kernel
theorem dX4_digest_9 : decode cX4_digest 9 = .ok (.if_icmp .gt 22, 3) := by decide +kernel
theorem dX4_digest_12 : decode cX4_digest 12 = .ok (.ldc2_w 250, 3) := by decide +kernel
theorem dX4_digest_15 : decode cX4_digest 15 = .ok (.lload_n 1, 1) := by decide +kernel
theorem dX4_digest_16 : decode cX4_digest 16 = .ok (.lmul, 1) := by decide +kernel
theorem dX4_digest_17 : decode cX4_digest 17 = .ok (.aload_n 0, 1) := by decide +kernel
theorem dX4_digest_18 : decode cX4_digest 18 = .ok (.iload_n 3, 1) := by decide +kernel
theorem dX4_digest_19 : decode cX4_digest 19 = .ok (.invokevirtual 245, 3) := by decide +kernel
theorem dX4_digest_22 : decode cX4_digest 22 = .ok (.i2l, 1) := by decide +kernel
theorem dX4_digest_23 : decode cX4_digest 23 = .ok (.ladd, 1) := by decide +kernel
theorem dX4_digest_24 : decode cX4_digest 24 = .ok (.lstore_n 1, 1) := by decide +kernel
theorem dX4_digest_25 : decode cX4_digest 25 = .ok (.iinc 3 1, 3) := by decide +kernel
theorem dX4_digest_28 : decode cX4_digest 28 = .ok (.goto (-22), 3) := by decide +kernel
theorem dX4_digest_31 : decode cX4_digest 31 = .ok (.iconst 0, 1) := by decide +kernel
theorem dX4_digest_32 : decode cX4_digest 32 = .ok (.istore_n 3, 1) := by decide +kernel
theorem dX4_digest_33 : decode cX4_digest 33 = .ok (.iload_n 3, 1) := by decide +kernel
theorem dX4_digest_34 : decode cX4_digest 34 = .ok (.aload_n 0, 1) := by decide +kernel
theorem dX4_digest_35 : decode cX4_digest 35 = .ok (.getfield 12, 3) := by decide +kernel
theorem dX4_digest_38 : decode cX4_digest 38 = .ok (.getfield 58, 3) := by decide +kernel
theorem dX4_digest_41 : decode cX4_digest 41 = .ok (.if_icmp .ge 94, 3) := by decide +kernel
theorem dX4_digest_44 : decode cX4_digest 44 = .ok (.ldc2_w 250, 3) := by decide +kernel
theorem dX4_digest_47 : decode cX4_digest 47 = .ok (.lload_n 1, 1) := by decide +kernel
theorem dX4_digest_48 : decode cX4_digest 48 = .ok (.lmul, 1) := by decide +kernel
theorem dX4_digest_49 : decode cX4_digest 49 = .ok (.aload_n 0, 1) := by decide +kernel
theorem dX4_digest_50 : decode cX4_digest 50 = .ok (.getfield 12, 3) := by decide +kernel
theorem dX4_digest_53 : decode cX4_digest 53 = .ok (.getfield 130, 3) := by decide +kernel
theorem dX4_digest_56 : decode cX4_digest 56 = .ok (.iload_n 3, 1) := by decide +kernel
theorem dX4_digest_57 : decode cX4_digest 57 = .ok (.iaload, 1) := by decide +kernel
theorem dX4_digest_58 : decode cX4_digest 58 = .ok (.i2l, 1) := by decide +kernel
theorem dX4_digest_59 : decode cX4_digest 59 = .ok (.ladd, 1) := by decide +kernel
theorem dX4_digest_60 : decode cX4_digest 60 = .ok (.lstore_n 1, 1) := by decide +kernel
theorem dX4_digest_61 : decode cX4_digest 61 = .ok (.ldc2_w 250, 3) := by decide +kernel
theorem dX4_digest_64 : decode cX4_digest 64 = .ok (.lload_n 1, 1) := by decide +kernel
theorem dX4_digest_65 : decode cX4_digest 65 = .ok (.lmul, 1) := by decide +kernel
theorem dX4_digest_66 : decode cX4_digest 66 = .ok (.aload_n 0, 1) := by decide +kernel
theorem dX4_digest_67 : decode cX4_digest 67 = .ok (.getfield 12, 3) := by decide +kernel
theorem dX4_digest_70 : decode cX4_digest 70 = .ok (.getfield 112, 3) := by decide +kernel
theorem dX4_digest_73 : decode cX4_digest 73 = .ok (.iload_n 3, 1) := by decide +kernel
theorem dX4_digest_74 : decode cX4_digest 74 = .ok (.iaload, 1) := by decide +kernel
theorem dX4_digest_75 : decode cX4_digest 75 = .ok (.i2l, 1) := by decide +kernel
theorem dX4_digest_76 : decode cX4_digest 76 = .ok (.ladd, 1) := by decide +kernel
theorem dX4_digest_77 : decode cX4_digest 77 = .ok (.lstore_n 1, 1) := by decide +kernel
theorem dX4_digest_78 : decode cX4_digest 78 = .ok (.ldc2_w 250, 3) := by decide +kernel
theorem dX4_digest_81 : decode cX4_digest 81 = .ok (.lload_n 1, 1) := by decide +kernel
theorem dX4_digest_82 : decode cX4_digest 82 = .ok (.lmul, 1) := by decide +kernel
theorem dX4_digest_83 : decode cX4_digest 83 = .ok (.aload_n 0, 1) := by decide +kernel
theorem dX4_digest_84 : decode cX4_digest 84 = .ok (.getfield 12, 3) := by decide +kernel
theorem dX4_digest_87 : decode cX4_digest 87 = .ok (.getfield 108, 3) := by decide +kernel
theorem dX4_digest_90 : decode cX4_digest 90 = .ok (.iload_n 3, 1) := by decide +kernel
theorem dX4_digest_91 : decode cX4_digest 91 = .ok (.iaload, 1) := by decide +kernel
theorem dX4_digest_92 : decode cX4_digest 92 = .ok (.i2l, 1) := by decide +kernel
theorem dX4_digest_93 : decode cX4_digest 93 = .ok (.ladd, 1) := by decide +kernel
theorem dX4_digest_94 : decode cX4_digest 94 = .ok (.lstore_n 1, 1) := by decide +kernel
theorem dX4_digest_95 : decode cX4_digest 95 = .ok (.ldc2_w 250, 3) := by decide +kernel
theorem dX4_digest_98 : decode cX4_digest 98 = .ok (.lload_n 1, 1) := by decide +kernel
theorem dX4_digest_99 : decode cX4_digest 99 = .ok (.lmul, 1) := by decide +kernel
theorem dX4_digest_100 : decode cX4_digest 100 = .ok (.aload_n 0, 1) := by decide +kernel
theorem dX4_digest_101 : decode cX4_digest 101 = .ok (.getfield 12, 3) := by decide +kernel
theorem dX4_digest_104 : decode cX4_digest 104 = .ok (.getfield 133, 3) := by decide +kernel
theorem dX4_digest_107 : decode cX4_digest 107 = .ok (.iload_n 3, 1) := by decide +kernel
theorem dX4_digest_108 : decode cX4_digest 108 = .ok (.iaload, 1) := by decide +kernel
theorem dX4_digest_109 : decode cX4_digest 109 = .ok (.i2l, 1) := by decide +kernel
theorem dX4_digest_110 : decode cX4_digest 110 = .ok (.ladd, 1) := by decide +kernel
theorem dX4_digest_111 : decode cX4_digest 111 = .ok (.lstore_n 1, 1) := by decide +kernel
theorem dX4_digest_112 : decode cX4_digest 112 = .ok (.ldc2_w 250, 3) := by decide +kernel
theorem dX4_digest_115 : decode cX4_digest 115 = .ok (.lload_n 1, 1) := by decide +kernel
theorem dX4_digest_116 : decode cX4_digest 116 = .ok (.lmul, 1) := by decide +kernel
theorem dX4_digest_117 : decode cX4_digest 117 = .ok (.aload_n 0, 1) := by decide +kernel
theorem dX4_digest_118 : decode cX4_digest 118 = .ok (.getfield 12, 3) := by decide +kernel
theorem dX4_digest_121 : decode cX4_digest 121 = .ok (.getfield 136, 3) := by decide +kernel
theorem dX4_digest_124 : decode cX4_digest 124 = .ok (.iload_n 3, 1) := by decide +kernel
theorem dX4_digest_125 : decode cX4_digest 125 = .ok (.iaload, 1) := by decide +kernel
theorem dX4_digest_126 : decode cX4_digest 126 = .ok (.i2l, 1) := by decide +kernel
theorem dX4_digest_127 : decode cX4_digest 127 = .ok (.ladd, 1) := by decide +kernel
theorem dX4_digest_128 : decode cX4_digest 128 = .ok (.lstore_n 1, 1) := by decide +kernel
theorem dX4_digest_129 : decode cX4_digest 129 = .ok (.iinc 3 1, 3) := by decide +kernel
theorem dX4_digest_132 : decode cX4_digest 132 = .ok (.goto (-99), 3) := by decide +kernel
theorem dX4_digest_135 : decode cX4_digest 135 = .ok (.iconst 0, 1) := by decide +kernel
theorem dX4_digest_136 : decode cX4_digest 136 = .ok (.istore_n 3, 1) := by decide +kernel
theorem dX4_digest_137 : decode cX4_digest 137 = .ok (.iload_n 3, 1) := by decide +kernel
theorem dX4_digest_138 : decode cX4_digest 138 = .ok (.aload_n 0, 1) := by decide +kernel
theorem dX4_digest_139 : decode cX4_digest 139 = .ok (.getfield 12, 3) := by decide +kernel
theorem dX4_digest_142 : decode cX4_digest 142 = .ok (.getfield 190, 3) := by decide +kernel
theorem dX4_digest_145 : decode cX4_digest 145 = .ok (.if_icmp .ge 43, 3) := by decide +kernel
theorem dX4_digest_148 : decode cX4_digest 148 = .ok (.ldc2_w 250, 3) := by decide +kernel
theorem dX4_digest_151 : decode cX4_digest 151 = .ok (.lload_n 1, 1) := by decide +kernel
theorem dX4_digest_152 : decode cX4_digest 152 = .ok (.lmul, 1) := by decide +kernel
theorem dX4_digest_153 : decode cX4_digest 153 = .ok (.aload_n 0, 1) := by decide +kernel
theorem dX4_digest_154 : decode cX4_digest 154 = .ok (.getfield 12, 3) := by decide +kernel
theorem dX4_digest_157 : decode cX4_digest 157 = .ok (.getfield 252, 3) := by decide +kernel
theorem dX4_digest_160 : decode cX4_digest 160 = .ok (.iload_n 3, 1) := by decide +kernel
theorem dX4_digest_161 : decode cX4_digest 161 = .ok (.iaload, 1) := by decide +kernel
theorem dX4_digest_162 : decode cX4_digest 162 = .ok (.i2l, 1) := by decide +kernel
theorem dX4_digest_163 : decode cX4_digest 163 = .ok (.ladd, 1) := by decide +kernel
theorem dX4_digest_164 : decode cX4_digest 164 = .ok (.lstore_n 1, 1) := by decide +kernel
theorem dX4_digest_165 : decode cX4_digest 165 = .ok (.ldc2_w 250, 3) := by decide +kernel
theorem dX4_digest_168 : decode cX4_digest 168 = .ok (.lload_n 1, 1) := by decide +kernel
theorem dX4_digest_169 : decode cX4_digest 169 = .ok (.lmul, 1) := by decide +kernel
theorem dX4_digest_170 : decode cX4_digest 170 = .ok (.aload_n 0, 1) := by decide +kernel
theorem dX4_digest_171 : decode cX4_digest 171 = .ok (.getfield 12, 3) := by decide +kernel
theorem dX4_digest_174 : decode cX4_digest 174 = .ok (.getfield 255, 3) := by decide +kernel
theorem dX4_digest_177 : decode cX4_digest 177 = .ok (.iload_n 3, 1) := by decide +kernel
theorem dX4_digest_178 : decode cX4_digest 178 = .ok (.iaload, 1) := by decide +kernel
theorem dX4_digest_179 : decode cX4_digest 179 = .ok (.i2l, 1) := by decide +kernel
theorem dX4_digest_180 : decode cX4_digest 180 = .ok (.ladd, 1) := by decide +kernel
theorem dX4_digest_181 : decode cX4_digest 181 = .ok (.lstore_n 1, 1) := by decide +kernel
theorem dX4_digest_182 : decode cX4_digest 182 = .ok (.iinc 3 1, 3) := by decide +kernel
theorem dX4_digest_185 : decode cX4_digest 185 = .ok (.goto (-48), 3) := by decide +kernel
theorem dX4_digest_188 : decode cX4_digest 188 = .ok (.iconst 0, 1) := by decide +kernel
theorem dX4_digest_189 : decode cX4_digest 189 = .ok (.istore_n 3, 1) := by decide +kernel
theorem dX4_digest_190 : decode cX4_digest 190 = .ok (.iload_n 3, 1) := by decide +kernel
theorem dX4_digest_191 : decode cX4_digest 191 = .ok (.aload_n 0, 1) := by decide +kernel
theorem dX4_digest_192 : decode cX4_digest 192 = .ok (.getfield 12, 3) := by decide +kernel
theorem dX4_digest_195 : decode cX4_digest 195 = .ok (.getfield 199, 3) := by decide +kernel
theorem dX4_digest_198 : decode cX4_digest 198 = .ok (.bipush 6, 2) := by decide +kernel
theorem dX4_digest_200 : decode cX4_digest 200 = .ok (.imul, 1) := by decide +kernel
theorem dX4_digest_201 : decode cX4_digest 201 = .ok (.if_icmp .ge 26, 3) := by decide +kernel
theorem dX4_digest_204 : decode cX4_digest 204 = .ok (.ldc2_w 250, 3) := by decide +kernel
theorem dX4_digest_207 : decode cX4_digest 207 = .ok (.lload_n 1, 1) := by decide +kernel
theorem dX4_digest_208 : decode cX4_digest 208 = .ok (.lmul, 1) := by decide +kernel
theorem dX4_digest_209 : decode cX4_digest 209 = .ok (.aload_n 0, 1) := by decide +kernel
theorem dX4_digest_210 : decode cX4_digest 210 = .ok (.getfield 12, 3) := by decide +kernel
theorem dX4_digest_213 : decode cX4_digest 213 = .ok (.getfield 258, 3) := by decide +kernel
theorem dX4_digest_216 : decode cX4_digest 216 = .ok (.iload_n 3, 1) := by decide +kernel
theorem dX4_digest_217 : decode cX4_digest 217 = .ok (.iaload, 1) := by decide +kernel
theorem dX4_digest_218 : decode cX4_digest 218 = .ok (.i2l, 1) := by decide +kernel
theorem dX4_digest_219 : decode cX4_digest 219 = .ok (.ladd, 1) := by decide +kernel
theorem dX4_digest_220 : decode cX4_digest 220 = .ok (.lstore_n 1, 1) := by decide +kernel
theorem dX4_digest_221 : decode cX4_digest 221 = .ok (.iinc 3 1, 3) := by decide +kernel
theorem dX4_digest_224 : decode cX4_digest 224 = .ok (.goto (-34), 3) := by decide +kernel
theorem dX4_digest_227 : decode cX4_digest 227 = .ok (.ldc2_w 250, 3) := by decide +kernel
theorem dX4_digest_230 : decode cX4_digest 230 = .ok (.lload_n 1, 1) := by decide +kernel
theorem dX4_digest_231 : decode cX4_digest 231 = .ok (.lmul, 1) := by decide +kernel
theorem dX4_digest_232 : decode cX4_digest 232 = .ok (.aload_n 0, 1) := by decide +kernel
theorem dX4_digest_233 : decode cX4_digest 233 = .ok (.getfield 34, 3) := by decide +kernel
theorem dX4_digest_236 : decode cX4_digest 236 = .ok (.i2l, 1) := by decide +kernel
theorem dX4_digest_237 : decode cX4_digest 237 = .ok (.ladd, 1) := by decide +kernel
theorem dX4_digest_238 : decode cX4_digest 238 = .ok (.lstore_n 1, 1) := by decide +kernel
theorem dX4_digest_239 : decode cX4_digest 239 = .ok (.ldc2_w 250, 3) := by decide +kernel
theorem dX4_digest_242 : decode cX4_digest 242 = .ok (.lload_n 1, 1) := by decide +kernel
theorem dX4_digest_243 : decode cX4_digest 243 = .ok (.lmul, 1) := by decide +kernel
theorem dX4_digest_244 : decode cX4_digest 244 = .ok (.aload_n 0, 1) := by decide +kernel
theorem dX4_digest_245 : decode cX4_digest 245 = .ok (.getfield 38, 3) := by decide +kernel
theorem dX4_digest_248 : decode cX4_digest 248 = .ok (.i2l, 1) := by decide +kernel
theorem dX4_digest_249 : decode cX4_digest 249 = .ok (.ladd, 1) := by decide +kernel
theorem dX4_digest_250 : decode cX4_digest 250 = .ok (.lreturn, 1) := by decide +kernel
theorem dX4_within_0 : decode cX4_within 0 = .ok (.iload_n 0, 1) := by decide +kernel
theorem dX4_within_1 : decode cX4_within 1 = .ok (.iload_n 1, 1) := by decide +kernel
theorem dX4_within_2 : decode cX4_within 2 = .ok (.if_icmp .lt 12, 3) := by decide +kernel
theorem dX4_within_5 : decode cX4_within 5 = .ok (.iload_n 0, 1) := by decide +kernel
theorem dX4_within_6 : decode cX4_within 6 = .ok (.iload_n 2, 1) := by decide +kernel
theorem dX4_within_7 : decode cX4_within 7 = .ok (.if_icmp .gt 7, 3) := by decide +kernel
theorem dX4_within_10 : decode cX4_within 10 = .ok (.iconst 1, 1) := by decide +kernel
theorem dX4_within_11 : decode cX4_within 11 = .ok (.goto 4, 3) := by decide +kernel
theorem dX4_within_14 : decode cX4_within 14 = .ok (.iconst 0, 1) := by decide +kernel
theorem dX4_within_15 : decode cX4_within 15 = .ok (.ireturn, 1) := by decide +kernel
theorem dX4_isHour_0 : decode cX4_isHour 0 = .ok (.iload_n 0, 1) := by decide +kernel
theorem dX4_isHour_1 : decode cX4_isHour 1 = .ok (.iconst 0, 1) := by decide +kernel
theorem dX4_isHour_2 : decode cX4_isHour 2 = .ok (.bipush 7, 2) := by decide +kernel
theorem dX4_isHour_4 : decode cX4_isHour 4 = .ok (.invokestatic 65, 3) := by decide +kernel
theorem dX4_isHour_7 : decode cX4_isHour 7 = .ok (.ireturn, 1) := by decide +kernel
theorem dX4_isPressure_0 : decode cX4_isPressure 0 = .ok (.iload_n 0, 1) := by decide +kernel
theorem dX4_isPressure_1 : decode cX4_isPressure 1 = .ok (.iconst 0, 1) := by decide +kernel
theorem dX4_isPressure_2 : decode cX4_isPressure 2 = .ok (.bipush 60, 2) := by decide +kernel
theorem dX4_isPressure_4 : decode cX4_isPressure 4 = .ok (.invokestatic 65, 3) := by decide +kernel
theorem dX4_isPressure_7 : decode cX4_isPressure 7 = .ok (.ireturn, 1) := by decide +kernel
theorem dX4_isWanted_0 : decode cX4_isWanted 0 = .ok (.iload_n 0, 1) := by decide +kernel
theorem dX4_isWanted_1 : decode cX4_isWanted 1 = .ok (.iconst 1, 1) := by decide +kernel
theorem dX4_isWanted_2 : decode cX4_isWanted 2 = .ok (.bipush 20, 2) := by decide +kernel
theorem dX4_isWanted_4 : decode cX4_isWanted 4 = .ok (.invokestatic 65, 3) := by decide +kernel
theorem dX4_isWanted_7 : decode cX4_isWanted 7 = .ok (.ireturn, 1) := by decide +kernel
theorem dX4_bad_0 : decode cX4_bad 0 = .ok (.aload_n 0, 1) := by decide +kernel
theorem dX4_bad_1 : decode cX4_bad 1 = .ok (.dup, 1) := by decide +kernel
theorem dX4_bad_2 : decode cX4_bad 2 = .ok (.getfield 41, 3) := by decide +kernel
theorem dX4_bad_5 : decode cX4_bad 5 = .ok (.iconst 1, 1) := by decide +kernel
theorem dX4_bad_6 : decode cX4_bad 6 = .ok (.iadd, 1) := by decide +kernel
theorem dX4_bad_7 : decode cX4_bad 7 = .ok (.putfield 41, 3) := by decide +kernel
theorem dX4_bad_10 : decode cX4_bad 10 = .ok (.bipush (-2), 2) := by decide +kernel
theorem dX4_bad_12 : decode cX4_bad 12 = .ok (.ireturn, 1) := by decide +kernel
theorem dX4_badHere_0 : decode cX4_badHere 0 = .ok (.aload_n 0, 1) := by decide +kernel
theorem dX4_badHere_1 : decode cX4_badHere 1 = .ok (.dup, 1) := by decide +kernel
theorem dX4_badHere_2 : decode cX4_badHere 2 = .ok (.getfield 41, 3) := by decide +kernel
theorem dX4_badHere_5 : decode cX4_badHere 5 = .ok (.iconst 1, 1) := by decide +kernel
theorem dX4_badHere_6 : decode cX4_badHere 6 = .ok (.iadd, 1) := by decide +kernel
theorem dX4_badHere_7 : decode cX4_badHere 7 = .ok (.putfield 41, 3) := by decide +kernel
theorem dX4_badHere_10 : decode cX4_badHere 10 = .ok (.bipush (-10), 2) := by decide +kernel
theorem dX4_badHere_12 : decode cX4_badHere 12 = .ok (.ireturn, 1) := by decide +kernel
theorem dX4_no_0 : decode cX4_no 0 = .ok (.aload_n 0, 1) := by decide +kernel
theorem dX4_no_1 : decode cX4_no 1 = .ok (.dup, 1) := by decide +kernel
theorem dX4_no_2 : decode cX4_no 2 = .ok (.getfield 44, 3) := by decide +kernel
theorem dX4_no_5 : decode cX4_no 5 = .ok (.iconst 1, 1) := by decide +kernel
theorem dX4_no_6 : decode cX4_no 6 = .ok (.iadd, 1) := by decide +kernel
theorem dX4_no_7 : decode cX4_no 7 = .ok (.putfield 44, 3) := by decide +kernel
theorem dX4_no_10 : decode cX4_no 10 = .ok (.bipush (-3), 2) := by decide +kernel
theorem dX4_no_12 : decode cX4_no 12 = .ok (.ireturn, 1) := by decide +kernel
theorem dX4_full_0 : decode cX4_full 0 = .ok (.aload_n 0, 1) := by decide +kernel
theorem dX4_full_1 : decode cX4_full 1 = .ok (.dup, 1) := by decide +kernel
theorem dX4_full_2 : decode cX4_full 2 = .ok (.getfield 47, 3) := by decide +kernel
theorem dX4_full_5 : decode cX4_full 5 = .ok (.iconst 1, 1) := by decide +kernel
theorem dX4_full_6 : decode cX4_full 6 = .ok (.iadd, 1) := by decide +kernel
theorem dX4_full_7 : decode cX4_full 7 = .ok (.putfield 47, 3) := by decide +kernel
theorem dX4_full_10 : decode cX4_full 10 = .ok (.bipush (-4), 2) := by decide +kernel
theorem dX4_full_12 : decode cX4_full 12 = .ok (.ireturn, 1) := by decide +kernel
theorem dX4_dailyOfOne_0 : decode cX4_dailyOfOne 0 = .ok (.iload_n 2, 1) := by decide +kernel
theorem dX4_dailyOfOne_1 : decode cX4_dailyOfOne 1 = .ok (.ifCond .ne 21, 3) := by decide +kernel
theorem dX4_dailyOfOne_4 : decode cX4_dailyOfOne 4 = .ok (.aload_n 0, 1) := by decide +kernel
theorem dX4_dailyOfOne_5 : decode cX4_dailyOfOne 5 = .ok (.getfield 12, 3) := by decide +kernel
theorem dX4_dailyOfOne_8 : decode cX4_dailyOfOne 8 = .ok (.iload_n 1, 1) := by decide +kernel
theorem dX4_dailyOfOne_9 : decode cX4_dailyOfOne 9 = .ok (.aload_n 0, 1) := by decide +kernel
theorem dX4_dailyOfOne_10 : decode cX4_dailyOfOne 10 = .ok (.getfield 12, 3) := by decide +kernel
theorem dX4_dailyOfOne_13 : decode cX4_dailyOfOne 13 = .ok (.invokevirtual 184, 3) := by decide +kernel
theorem dX4_dailyOfOne_16 : decode cX4_dailyOfOne 16 = .ok (.invokevirtual 187, 3) := by decide +kernel
theorem dX4_dailyOfOne_19 : decode cX4_dailyOfOne 19 = .ok (.goto 11, 3) := by decide +kernel
theorem dX4_dailyOfOne_22 : decode cX4_dailyOfOne 22 = .ok (.aload_n 0, 1) := by decide +kernel
theorem dX4_dailyOfOne_23 : decode cX4_dailyOfOne 23 = .ok (.getfield 12, 3) := by decide +kernel
theorem dX4_dailyOfOne_26 : decode cX4_dailyOfOne 26 = .ok (.iload_n 1, 1) := by decide +kernel
theorem dX4_dailyOfOne_27 : decode cX4_dailyOfOne 27 = .ok (.invokevirtual 261, 3) := by decide +kernel
theorem dX4_dailyOfOne_30 : decode cX4_dailyOfOne 30 = .ok (.ireturn, 1) := by decide +kernel
theorem dX4_isAmple_0 : decode cX4_isAmple 0 = .ok (.iconst 0, 1) := by decide +kernel
theorem dX4_isAmple_1 : decode cX4_isAmple 1 = .ok (.istore_n 2, 1) := by decide +kernel
theorem dX4_isAmple_2 : decode cX4_isAmple 2 = .ok (.iload_n 2, 1) := by decide +kernel
theorem dX4_isAmple_3 : decode cX4_isAmple 3 = .ok (.bipush 8, 2) := by decide +kernel
theorem dX4_isAmple_5 : decode cX4_isAmple 5 = .ok (.if_icmp .ge 55, 3) := by decide +kernel
theorem dX4_isAmple_8 : decode cX4_isAmple 8 = .ok (.iconst 0, 1) := by decide +kernel
theorem dX4_isAmple_9 : decode cX4_isAmple 9 = .ok (.istore_n 3, 1) := by decide +kernel
theorem dX4_isAmple_10 : decode cX4_isAmple 10 = .ok (.iload_n 3, 1) := by decide +kernel
theorem dX4_isAmple_11 : decode cX4_isAmple 11 = .ok (.aload_n 0, 1) := by decide +kernel
theorem dX4_isAmple_12 : decode cX4_isAmple 12 = .ok (.getfield 12, 3) := by decide +kernel
theorem dX4_isAmple_15 : decode cX4_isAmple 15 = .ok (.getfield 58, 3) := by decide +kernel
theorem dX4_isAmple_18 : decode cX4_isAmple 18 = .ok (.if_icmp .ge 36, 3) := by decide +kernel
theorem dX4_isAmple_21 : decode cX4_isAmple 21 = .ok (.aload_n 0, 1) := by decide +kernel
theorem dX4_isAmple_22 : decode cX4_isAmple 22 = .ok (.getfield 12, 3) := by decide +kernel
theorem dX4_isAmple_25 : decode cX4_isAmple 25 = .ok (.iload_n 3, 1) := by decide +kernel
theorem dX4_isAmple_26 : decode cX4_isAmple 26 = .ok (.iload_n 2, 1) := by decide +kernel
theorem dX4_isAmple_27 : decode cX4_isAmple 27 = .ok (.iload_n 1, 1) := by decide +kernel
theorem dX4_isAmple_28 : decode cX4_isAmple 28 = .ok (.invokevirtual 220, 3) := by decide +kernel
theorem dX4_isAmple_31 : decode cX4_isAmple 31 = .ok (.aload_n 0, 1) := by decide +kernel
theorem dX4_isAmple_32 : decode cX4_isAmple 32 = .ok (.getfield 12, 3) := by decide +kernel
theorem dX4_isAmple_35 : decode cX4_isAmple 35 = .ok (.iload_n 3, 1) := by decide +kernel
theorem dX4_isAmple_36 : decode cX4_isAmple 36 = .ok (.iload_n 2, 1) := by decide +kernel
theorem dX4_isAmple_37 : decode cX4_isAmple 37 = .ok (.sipush 300, 3) := by decide +kernel
theorem dX4_isAmple_40 : decode cX4_isAmple 40 = .ok (.invokevirtual 220, 3) := by decide +kernel
theorem dX4_isAmple_43 : decode cX4_isAmple 43 = .ok (.if_icmp .ge 5, 3) := by decide +kernel
theorem dX4_isAmple_46 : decode cX4_isAmple 46 = .ok (.iconst 0, 1) := by decide +kernel
theorem dX4_isAmple_47 : decode cX4_isAmple 47 = .ok (.ireturn, 1) := by decide +kernel
theorem dX4_isAmple_48 : decode cX4_isAmple 48 = .ok (.iinc 3 1, 3) := by decide +kernel
theorem dX4_isAmple_51 : decode cX4_isAmple 51 = .ok (.goto (-41), 3) := by decide +kernel
theorem dX4_isAmple_54 : decode cX4_isAmple 54 = .ok (.iinc 2 1, 3) := by decide +kernel
theorem dX4_isAmple_57 : decode cX4_isAmple 57 = .ok (.goto (-55), 3) := by decide +kernel
theorem dX4_isAmple_60 : decode cX4_isAmple 60 = .ok (.iconst 1, 1) := by decide +kernel
theorem dX4_isAmple_61 : decode cX4_isAmple 61 = .ok (.ireturn, 1) := by decide +kernel
theorem dX4_fitsLefts_0 : decode cX4_fitsLefts 0 = .ok (.iconst 0, 1) := by decide +kernel
theorem dX4_fitsLefts_1 : decode cX4_fitsLefts 1 = .ok (.istore_n 2, 1) := by decide +kernel
theorem dX4_fitsLefts_2 : decode cX4_fitsLefts 2 = .ok (.iload_n 2, 1) := by decide +kernel
theorem dX4_fitsLefts_3 : decode cX4_fitsLefts 3 = .ok (.aload_n 0, 1) := by decide +kernel
theorem dX4_fitsLefts_4 : decode cX4_fitsLefts 4 = .ok (.getfield 12, 3) := by decide +kernel
theorem dX4_fitsLefts_7 : decode cX4_fitsLefts 7 = .ok (.getfield 190, 3) := by decide +kernel
theorem dX4_fitsLefts_10 : decode cX4_fitsLefts 10 = .ok (.if_icmp .ge 54, 3) := by decide +kernel
theorem dX4_fitsLefts_13 : decode cX4_fitsLefts 13 = .ok (.aload_n 0, 1) := by decide +kernel
theorem dX4_fitsLefts_14 : decode cX4_fitsLefts 14 = .ok (.getfield 12, 3) := by decide +kernel
theorem dX4_fitsLefts_17 : decode cX4_fitsLefts 17 = .ok (.aload_n 0, 1) := by decide +kernel
theorem dX4_fitsLefts_18 : decode cX4_fitsLefts 18 = .ok (.getfield 12, 3) := by decide +kernel
theorem dX4_fitsLefts_21 : decode cX4_fitsLefts 21 = .ok (.getfield 252, 3) := by decide +kernel
theorem dX4_fitsLefts_24 : decode cX4_fitsLefts 24 = .ok (.iload_n 2, 1) := by decide +kernel
theorem dX4_fitsLefts_25 : decode cX4_fitsLefts 25 = .ok (.iaload, 1) := by decide +kernel
theorem dX4_fitsLefts_26 : decode cX4_fitsLefts 26 = .ok (.iload_n 1, 1) := by decide +kernel
theorem dX4_fitsLefts_27 : decode cX4_fitsLefts 27 = .ok (.aload_n 0, 1) := by decide +kernel
theorem dX4_fitsLefts_28 : decode cX4_fitsLefts 28 = .ok (.getfield 12, 3) := by decide +kernel
theorem dX4_fitsLefts_31 : decode cX4_fitsLefts 31 = .ok (.getfield 115, 3) := by decide +kernel
theorem dX4_fitsLefts_34 : decode cX4_fitsLefts 34 = .ok (.invokevirtual 145, 3) := by decide +kernel
theorem dX4_fitsLefts_37 : decode cX4_fitsLefts 37 = .ok (.aload_n 0, 1) := by decide +kernel
theorem dX4_fitsLefts_38 : decode cX4_fitsLefts 38 = .ok (.getfield 12, 3) := by decide +kernel
theorem dX4_fitsLefts_41 : decode cX4_fitsLefts 41 = .ok (.getfield 155, 3) := by decide +kernel
theorem dX4_fitsLefts_44 : decode cX4_fitsLefts 44 = .ok (.aload_n 0, 1) := by decide +kernel
theorem dX4_fitsLefts_45 : decode cX4_fitsLefts 45 = .ok (.getfield 12, 3) := by decide +kernel
theorem dX4_fitsLefts_48 : decode cX4_fitsLefts 48 = .ok (.getfield 255, 3) := by decide +kernel
theorem dX4_fitsLefts_51 : decode cX4_fitsLefts 51 = .ok (.iload_n 2, 1) := by decide +kernel
theorem dX4_fitsLefts_52 : decode cX4_fitsLefts 52 = .ok (.iaload, 1) := by decide +kernel
theorem dX4_fitsLefts_53 : decode cX4_fitsLefts 53 = .ok (.if_icmp .eq 5, 3) := by decide +kernel
theorem dX4_fitsLefts_56 : decode cX4_fitsLefts 56 = .ok (.iconst 0, 1) := by decide +kernel
theorem dX4_fitsLefts_57 : decode cX4_fitsLefts 57 = .ok (.ireturn, 1) := by decide +kernel
theorem dX4_fitsLefts_58 : decode cX4_fitsLefts 58 = .ok (.iinc 2 1, 3) := by decide +kernel
theorem dX4_fitsLefts_61 : decode cX4_fitsLefts 61 = .ok (.goto (-59), 3) := by decide +kernel
theorem dX4_fitsLefts_64 : decode cX4_fitsLefts 64 = .ok (.iconst 1, 1) := by decide +kernel
theorem dX4_fitsLefts_65 : decode cX4_fitsLefts 65 = .ok (.ireturn, 1) := by decide +kernel
theorem dX4_kindsOf_0 : decode cX4_kindsOf 0 = .ok (.iconst 0, 1) := by decide +kernel
theorem dX4_kindsOf_1 : decode cX4_kindsOf 1 = .ok (.istore_n 2, 1) := by decide +kernel
theorem dX4_kindsOf_2 : decode cX4_kindsOf 2 = .ok (.iconst 0, 1) := by decide +kernel
theorem dX4_kindsOf_3 : decode cX4_kindsOf 3 = .ok (.istore_n 3, 1) := by decide +kernel
theorem dX4_kindsOf_4 : decode cX4_kindsOf 4 = .ok (.iload_n 3, 1) := by decide +kernel
theorem dX4_kindsOf_5 : decode cX4_kindsOf 5 = .ok (.bipush 6, 2) := by decide +kernel
theorem dX4_kindsOf_7 : decode cX4_kindsOf 7 = .ok (.if_icmp .ge 24, 3) := by decide +kernel
theorem dX4_kindsOf_10 : decode cX4_kindsOf 10 = .ok (.aload_n 0, 1) := by decide +kernel
theorem dX4_kindsOf_11 : decode cX4_kindsOf 11 = .ok (.iload_n 3, 1) := by decide +kernel
theorem dX4_kindsOf_12 : decode cX4_kindsOf 12 = .ok (.iload_n 1, 1) := by decide +kernel
theorem dX4_kindsOf_13 : decode cX4_kindsOf 13 = .ok (.invokevirtual 264, 3) := by decide +kernel
theorem dX4_kindsOf_16 : decode cX4_kindsOf 16 = .ok (.ifCond .eq 9, 3) := by decide +kernel
theorem dX4_kindsOf_19 : decode cX4_kindsOf 19 = .ok (.iload_n 2, 1) := by decide +kernel
theorem dX4_kindsOf_20 : decode cX4_kindsOf 20 = .ok (.iconst 1, 1) := by decide +kernel
theorem dX4_kindsOf_21 : decode cX4_kindsOf 21 = .ok (.iload_n 3, 1) := by decide +kernel
theorem dX4_kindsOf_22 : decode cX4_kindsOf 22 = .ok (.ishl, 1) := by decide +kernel
theorem dX4_kindsOf_23 : decode cX4_kindsOf 23 = .ok (.ior, 1) := by decide +kernel
theorem dX4_kindsOf_24 : decode cX4_kindsOf 24 = .ok (.istore_n 2, 1) := by decide +kernel
theorem dX4_kindsOf_25 : decode cX4_kindsOf 25 = .ok (.iinc 3 1, 3) := by decide +kernel
theorem dX4_kindsOf_28 : decode cX4_kindsOf 28 = .ok (.goto (-24), 3) := by decide +kernel
theorem dX4_kindsOf_31 : decode cX4_kindsOf 31 = .ok (.iload_n 2, 1) := by decide +kernel
theorem dX4_kindsOf_32 : decode cX4_kindsOf 32 = .ok (.ireturn, 1) := by decide +kernel
theorem dX4_fitsNotes_0 : decode cX4_fitsNotes 0 = .ok (.iconst 0, 1) := by decide +kernel
theorem dX4_fitsNotes_1 : decode cX4_fitsNotes 1 = .ok (.istore_n 3, 1) := by decide +kernel
theorem dX4_fitsNotes_2 : decode cX4_fitsNotes 2 = .ok (.iload_n 3, 1) := by decide +kernel
theorem dX4_fitsNotes_3 : decode cX4_fitsNotes 3 = .ok (.aload_n 0, 1) := by decide +kernel
theorem dX4_fitsNotes_4 : decode cX4_fitsNotes 4 = .ok (.getfield 12, 3) := by decide +kernel
theorem dX4_fitsNotes_7 : decode cX4_fitsNotes 7 = .ok (.getfield 199, 3) := by decide +kernel
theorem dX4_fitsNotes_10 : decode cX4_fitsNotes 10 = .ok (.if_icmp .ge 39, 3) := by decide +kernel
theorem dX4_fitsNotes_13 : decode cX4_fitsNotes 13 = .ok (.aload_n 0, 1) := by decide +kernel
theorem dX4_fitsNotes_14 : decode cX4_fitsNotes 14 = .ok (.getfield 12, 3) := by decide +kernel
theorem dX4_fitsNotes_17 : decode cX4_fitsNotes 17 = .ok (.getfield 258, 3) := by decide +kernel
theorem dX4_fitsNotes_20 : decode cX4_fitsNotes 20 = .ok (.iload_n 3, 1) := by decide +kernel
theorem dX4_fitsNotes_21 : decode cX4_fitsNotes 21 = .ok (.bipush 6, 2) := by decide +kernel
theorem dX4_fitsNotes_23 : decode cX4_fitsNotes 23 = .ok (.imul, 1) := by decide +kernel
theorem dX4_fitsNotes_24 : decode cX4_fitsNotes 24 = .ok (.iaload, 1) := by decide +kernel
theorem dX4_fitsNotes_25 : decode cX4_fitsNotes 25 = .ok (.iload_n 2, 1) := by decide +kernel
theorem dX4_fitsNotes_26 : decode cX4_fitsNotes 26 = .ok (.if_icmp .ne 17, 3) := by decide +kernel
theorem dX4_fitsNotes_29 : decode cX4_fitsNotes 29 = .ok (.aload_n 0, 1) := by decide +kernel
theorem dX4_fitsNotes_30 : decode cX4_fitsNotes 30 = .ok (.iload_n 1, 1) := by decide +kernel
theorem dX4_fitsNotes_31 : decode cX4_fitsNotes 31 = .ok (.iload_n 3, 1) := by decide +kernel
theorem dX4_fitsNotes_32 : decode cX4_fitsNotes 32 = .ok (.bipush 6, 2) := by decide +kernel
theorem dX4_fitsNotes_34 : decode cX4_fitsNotes 34 = .ok (.imul, 1) := by decide +kernel
theorem dX4_fitsNotes_35 : decode cX4_fitsNotes 35 = .ok (.invokevirtual 267, 3) := by decide +kernel
theorem dX4_fitsNotes_38 : decode cX4_fitsNotes 38 = .ok (.ifCond .ne 5, 3) := by decide +kernel
theorem dX4_fitsNotes_41 : decode cX4_fitsNotes 41 = .ok (.iconst 0, 1) := by decide +kernel
theorem dX4_fitsNotes_42 : decode cX4_fitsNotes 42 = .ok (.ireturn, 1) := by decide +kernel
theorem dX4_fitsNotes_43 : decode cX4_fitsNotes 43 = .ok (.iinc 3 1, 3) := by decide +kernel
theorem dX4_fitsNotes_46 : decode cX4_fitsNotes 46 = .ok (.goto (-44), 3) := by decide +kernel
theorem dX4_fitsNotes_49 : decode cX4_fitsNotes 49 = .ok (.iconst 1, 1) := by decide +kernel
theorem dX4_fitsNotes_50 : decode cX4_fitsNotes 50 = .ok (.ireturn, 1) := by decide +kernel
theorem dX4_fitsNote_0 : decode cX4_fitsNote 0 = .ok (.iload_n 1, 1) := by decide +kernel
theorem dX4_fitsNote_1 : decode cX4_fitsNote 1 = .ok (.aload_n 0, 1) := by decide +kernel
theorem dX4_fitsNote_2 : decode cX4_fitsNote 2 = .ok (.getfield 12, 3) := by decide +kernel
theorem dX4_fitsNote_5 : decode cX4_fitsNote 5 = .ok (.getfield 258, 3) := by decide +kernel
theorem dX4_fitsNote_8 : decode cX4_fitsNote 8 = .ok (.iload_n 2, 1) := by decide +kernel
theorem dX4_fitsNote_9 : decode cX4_fitsNote 9 = .ok (.iconst 1, 1) := by decide +kernel
theorem dX4_fitsNote_10 : decode cX4_fitsNote 10 = .ok (.iadd, 1) := by decide +kernel
theorem dX4_fitsNote_11 : decode cX4_fitsNote 11 = .ok (.iaload, 1) := by decide +kernel
theorem dX4_fitsNote_12 : decode cX4_fitsNote 12 = .ok (.aload_n 0, 1) := by decide +kernel
theorem dX4_fitsNote_13 : decode cX4_fitsNote 13 = .ok (.getfield 12, 3) := by decide +kernel
theorem dX4_fitsNote_16 : decode cX4_fitsNote 16 = .ok (.getfield 258, 3) := by decide +kernel
theorem dX4_fitsNote_19 : decode cX4_fitsNote 19 = .ok (.iload_n 2, 1) := by decide +kernel
theorem dX4_fitsNote_20 : decode cX4_fitsNote 20 = .ok (.iconst 2, 1) := by decide +kernel
theorem dX4_fitsNote_21 : decode cX4_fitsNote 21 = .ok (.iadd, 1) := by decide +kernel
theorem dX4_fitsNote_22 : decode cX4_fitsNote 22 = .ok (.iaload, 1) := by decide +kernel
theorem dX4_fitsNote_23 : decode cX4_fitsNote 23 = .ok (.aload_n 0, 1) := by decide +kernel
theorem dX4_fitsNote_24 : decode cX4_fitsNote 24 = .ok (.getfield 12, 3) := by decide +kernel
theorem dX4_fitsNote_27 : decode cX4_fitsNote 27 = .ok (.getfield 258, 3) := by decide +kernel
theorem dX4_fitsNote_30 : decode cX4_fitsNote 30 = .ok (.iload_n 2, 1) := by decide +kernel
theorem dX4_fitsNote_31 : decode cX4_fitsNote 31 = .ok (.iconst 3, 1) := by decide +kernel
theorem dX4_fitsNote_32 : decode cX4_fitsNote 32 = .ok (.iadd, 1) := by decide +kernel
theorem dX4_fitsNote_33 : decode cX4_fitsNote 33 = .ok (.iaload, 1) := by decide +kernel
theorem dX4_fitsNote_34 : decode cX4_fitsNote 34 = .ok (.invokestatic 270, 3) := by decide +kernel
theorem dX4_fitsNote_37 : decode cX4_fitsNote 37 = .ok (.istore_n 3, 1) := by decide +kernel
theorem dX4_fitsNote_38 : decode cX4_fitsNote 38 = .ok (.iload_n 3, 1) := by decide +kernel
theorem dX4_fitsNote_39 : decode cX4_fitsNote 39 = .ok (.aload_n 0, 1) := by decide +kernel
theorem dX4_fitsNote_40 : decode cX4_fitsNote 40 = .ok (.getfield 12, 3) := by decide +kernel
theorem dX4_fitsNote_43 : decode cX4_fitsNote 43 = .ok (.getfield 258, 3) := by decide +kernel
theorem dX4_fitsNote_46 : decode cX4_fitsNote 46 = .ok (.iload_n 2, 1) := by decide +kernel
theorem dX4_fitsNote_47 : decode cX4_fitsNote 47 = .ok (.iconst 4, 1) := by decide +kernel
theorem dX4_fitsNote_48 : decode cX4_fitsNote 48 = .ok (.iadd, 1) := by decide +kernel
theorem dX4_fitsNote_49 : decode cX4_fitsNote 49 = .ok (.iaload, 1) := by decide +kernel
theorem dX4_fitsNote_50 : decode cX4_fitsNote 50 = .ok (.if_icmp .ne 26, 3) := by decide +kernel
theorem dX4_fitsNote_53 : decode cX4_fitsNote 53 = .ok (.iload_n 1, 1) := by decide +kernel
theorem dX4_fitsNote_54 : decode cX4_fitsNote 54 = .ok (.iload_n 3, 1) := by decide +kernel
theorem dX4_fitsNote_55 : decode cX4_fitsNote 55 = .ok (.invokestatic 274, 3) := by decide +kernel
theorem dX4_fitsNote_58 : decode cX4_fitsNote 58 = .ok (.aload_n 0, 1) := by decide +kernel
theorem dX4_fitsNote_59 : decode cX4_fitsNote 59 = .ok (.getfield 12, 3) := by decide +kernel
theorem dX4_fitsNote_62 : decode cX4_fitsNote 62 = .ok (.getfield 258, 3) := by decide +kernel
theorem dX4_fitsNote_65 : decode cX4_fitsNote 65 = .ok (.iload_n 2, 1) := by decide +kernel
theorem dX4_fitsNote_66 : decode cX4_fitsNote 66 = .ok (.iconst 5, 1) := by decide +kernel
theorem dX4_fitsNote_67 : decode cX4_fitsNote 67 = .ok (.iadd, 1) := by decide +kernel
theorem dX4_fitsNote_68 : decode cX4_fitsNote 68 = .ok (.iaload, 1) := by decide +kernel
theorem dX4_fitsNote_69 : decode cX4_fitsNote 69 = .ok (.if_icmp .ne 7, 3) := by decide +kernel
theorem dX4_fitsNote_72 : decode cX4_fitsNote 72 = .ok (.iconst 1, 1) := by decide +kernel
theorem dX4_fitsNote_73 : decode cX4_fitsNote 73 = .ok (.goto 4, 3) := by decide +kernel
theorem dX4_fitsNote_76 : decode cX4_fitsNote 76 = .ok (.iconst 0, 1) := by decide +kernel
theorem dX4_fitsNote_77 : decode cX4_fitsNote 77 = .ok (.ireturn, 1) := by decide +kernel
theorem dX4_mostAlike_0 : decode cX4_mostAlike 0 = .ok (.iconst 0, 1) := by decide +kernel
theorem dX4_mostAlike_1 : decode cX4_mostAlike 1 = .ok (.istore 4, 2) := by decide +kernel
theorem dX4_mostAlike_3 : decode cX4_mostAlike 3 = .ok (.iconst 0, 1) := by decide +kernel
theorem dX4_mostAlike_4 : decode cX4_mostAlike 4 = .ok (.istore 5, 2) := by decide +kernel
theorem dX4_mostAlike_6 : decode cX4_mostAlike 6 = .ok (.iload 5, 2) := by decide +kernel
theorem dX4_mostAlike_8 : decode cX4_mostAlike 8 = .ok (.bipush 6, 2) := by decide +kernel
theorem dX4_mostAlike_10 : decode cX4_mostAlike 10 = .ok (.if_icmp .ge 68, 3) := by decide +kernel
theorem dX4_mostAlike_13 : decode cX4_mostAlike 13 = .ok (.iconst 0, 1) := by decide +kernel
theorem dX4_mostAlike_14 : decode cX4_mostAlike 14 = .ok (.istore 6, 2) := by decide +kernel
theorem dX4_mostAlike_16 : decode cX4_mostAlike 16 = .ok (.iconst 0, 1) := by decide +kernel
theorem dX4_mostAlike_17 : decode cX4_mostAlike 17 = .ok (.istore 7, 2) := by decide +kernel
theorem dX4_mostAlike_19 : decode cX4_mostAlike 19 = .ok (.iload 7, 2) := by decide +kernel
theorem dX4_mostAlike_21 : decode cX4_mostAlike 21 = .ok (.bipush 6, 2) := by decide +kernel
theorem dX4_mostAlike_23 : decode cX4_mostAlike 23 = .ok (.if_icmp .ge 40, 3) := by decide +kernel
theorem dX4_mostAlike_26 : decode cX4_mostAlike 26 = .ok (.iload_n 0, 1) := by decide +kernel
theorem dX4_mostAlike_27 : decode cX4_mostAlike 27 = .ok (.iload 5, 2) := by decide +kernel
theorem dX4_mostAlike_29 : decode cX4_mostAlike 29 = .ok (.ishr, 1) := by decide +kernel
theorem dX4_mostAlike_30 : decode cX4_mostAlike 30 = .ok (.iload_n 0, 1) := by decide +kernel
theorem dX4_mostAlike_31 : decode cX4_mostAlike 31 = .ok (.iload 7, 2) := by decide +kernel
theorem dX4_mostAlike_33 : decode cX4_mostAlike 33 = .ok (.ishr, 1) := by decide +kernel
theorem dX4_mostAlike_34 : decode cX4_mostAlike 34 = .ok (.iand, 1) := by decide +kernel
theorem dX4_mostAlike_35 : decode cX4_mostAlike 35 = .ok (.iconst 1, 1) := by decide +kernel
theorem dX4_mostAlike_36 : decode cX4_mostAlike 36 = .ok (.iand, 1) := by decide +kernel
theorem dX4_mostAlike_37 : decode cX4_mostAlike 37 = .ok (.iconst 1, 1) := by decide +kernel
theorem dX4_mostAlike_38 : decode cX4_mostAlike 38 = .ok (.if_icmp .ne 19, 3) := by decide +kernel
theorem dX4_mostAlike_41 : decode cX4_mostAlike 41 = .ok (.iload 5, 2) := by decide +kernel
theorem dX4_mostAlike_43 : decode cX4_mostAlike 43 = .ok (.iload 7, 2) := by decide +kernel
theorem dX4_mostAlike_45 : decode cX4_mostAlike 45 = .ok (.iload_n 1, 1) := by decide +kernel
theorem dX4_mostAlike_46 : decode cX4_mostAlike 46 = .ok (.iload_n 2, 1) := by decide +kernel
theorem dX4_mostAlike_47 : decode cX4_mostAlike 47 = .ok (.iload_n 3, 1) := by decide +kernel
theorem dX4_mostAlike_48 : decode cX4_mostAlike 48 = .ok (.invokestatic 276, 3) := by decide +kernel
theorem dX4_mostAlike_51 : decode cX4_mostAlike 51 = .ok (.ifCond .eq 6, 3) := by decide +kernel
theorem dX4_mostAlike_54 : decode cX4_mostAlike 54 = .ok (.iinc 6 1, 3) := by decide +kernel
theorem dX4_mostAlike_57 : decode cX4_mostAlike 57 = .ok (.iinc 7 1, 3) := by decide +kernel
theorem dX4_mostAlike_60 : decode cX4_mostAlike 60 = .ok (.goto (-41), 3) := by decide +kernel
theorem dX4_mostAlike_63 : decode cX4_mostAlike 63 = .ok (.iload 4, 2) := by decide +kernel
theorem dX4_mostAlike_65 : decode cX4_mostAlike 65 = .ok (.iload 6, 2) := by decide +kernel
theorem dX4_mostAlike_67 : decode cX4_mostAlike 67 = .ok (.invokestatic 280, 3) := by decide +kernel
theorem dX4_mostAlike_70 : decode cX4_mostAlike 70 = .ok (.istore 4, 2) := by decide +kernel
theorem dX4_mostAlike_72 : decode cX4_mostAlike 72 = .ok (.iinc 5 1, 3) := by decide +kernel
theorem dX4_mostAlike_75 : decode cX4_mostAlike 75 = .ok (.goto (-69), 3) := by decide +kernel
theorem dX4_mostAlike_78 : decode cX4_mostAlike 78 = .ok (.iload 4, 2) := by decide +kernel
theorem dX4_mostAlike_80 : decode cX4_mostAlike 80 = .ok (.ireturn, 1) := by decide +kernel
theorem dX4_areAlike_0 : decode cX4_areAlike 0 = .ok (.iload_n 0, 1) := by decide +kernel
theorem dX4_areAlike_1 : decode cX4_areAlike 1 = .ok (.iload_n 2, 1) := by decide +kernel
theorem dX4_areAlike_2 : decode cX4_areAlike 2 = .ok (.iload_n 3, 1) := by decide +kernel
theorem dX4_areAlike_3 : decode cX4_areAlike 3 = .ok (.iload 4, 2) := by decide +kernel
theorem dX4_areAlike_5 : decode cX4_areAlike 5 = .ok (.invokestatic 270, 3) := by decide +kernel
theorem dX4_areAlike_8 : decode cX4_areAlike 8 = .ok (.istore 5, 2) := by decide +kernel
theorem dX4_areAlike_10 : decode cX4_areAlike 10 = .ok (.iload_n 1, 1) := by decide +kernel
theorem dX4_areAlike_11 : decode cX4_areAlike 11 = .ok (.iload_n 2, 1) := by decide +kernel
theorem dX4_areAlike_12 : decode cX4_areAlike 12 = .ok (.iload_n 3, 1) := by decide +kernel
theorem dX4_areAlike_13 : decode cX4_areAlike 13 = .ok (.iload 4, 2) := by decide +kernel
theorem dX4_areAlike_15 : decode cX4_areAlike 15 = .ok (.invokestatic 270, 3) := by decide +kernel
theorem dX4_areAlike_18 : decode cX4_areAlike 18 = .ok (.istore 6, 2) := by decide +kernel
theorem dX4_areAlike_20 : decode cX4_areAlike 20 = .ok (.iload 5, 2) := by decide +kernel
theorem dX4_areAlike_22 : decode cX4_areAlike 22 = .ok (.iload 6, 2) := by decide +kernel
theorem dX4_areAlike_24 : decode cX4_areAlike 24 = .ok (.if_icmp .ne 22, 3) := by decide +kernel
theorem dX4_areAlike_27 : decode cX4_areAlike 27 = .ok (.iload_n 0, 1) := by decide +kernel
theorem dX4_areAlike_28 : decode cX4_areAlike 28 = .ok (.iload 5, 2) := by decide +kernel
theorem dX4_areAlike_30 : decode cX4_areAlike 30 = .ok (.invokestatic 274, 3) := by decide +kernel
theorem dX4_areAlike_33 : decode cX4_areAlike 33 = .ok (.iload_n 1, 1) := by decide +kernel
theorem dX4_areAlike_34 : decode cX4_areAlike 34 = .ok (.iload 6, 2) := by decide +kernel
theorem dX4_areAlike_36 : decode cX4_areAlike 36 = .ok (.invokestatic 274, 3) := by decide +kernel
theorem dX4_areAlike_39 : decode cX4_areAlike 39 = .ok (.if_icmp .ne 7, 3) := by decide +kernel
theorem dX4_areAlike_42 : decode cX4_areAlike 42 = .ok (.iconst 1, 1) := by decide +kernel
theorem dX4_areAlike_43 : decode cX4_areAlike 43 = .ok (.goto 4, 3) := by decide +kernel
theorem dX4_areAlike_46 : decode cX4_areAlike 46 = .ok (.iconst 0, 1) := by decide +kernel
theorem dX4_areAlike_47 : decode cX4_areAlike 47 = .ok (.ireturn, 1) := by decide +kernel
theorem dX4_bothWouldSwap_0 : decode cX4_bothWouldSwap 0 = .ok (.aload_n 0, 1) := by decide +kernel
theorem dX4_bothWouldSwap_1 : decode cX4_bothWouldSwap 1 = .ok (.getfield 12, 3) := by decide +kernel
theorem dX4_bothWouldSwap_4 : decode cX4_bothWouldSwap 4 = .ok (.invokevirtual 184, 3) := by decide +kernel
theorem dX4_bothWouldSwap_7 : decode cX4_bothWouldSwap 7 = .ok (.istore_n 3, 1) := by decide +kernel
theorem dX4_bothWouldSwap_8 : decode cX4_bothWouldSwap 8 = .ok (.aload_n 0, 1) := by decide +kernel
theorem dX4_bothWouldSwap_9 : decode cX4_bothWouldSwap 9 = .ok (.getfield 12, 3) := by decide +kernel
theorem dX4_bothWouldSwap_12 : decode cX4_bothWouldSwap 12 = .ok (.iload_n 1, 1) := by decide +kernel
theorem dX4_bothWouldSwap_13 : decode cX4_bothWouldSwap 13 = .ok (.iload_n 3, 1) := by decide +kernel
theorem dX4_bothWouldSwap_14 : decode cX4_bothWouldSwap 14 = .ok (.invokevirtual 187, 3) := by decide +kernel
theorem dX4_bothWouldSwap_17 : decode cX4_bothWouldSwap 17 = .ok (.istore 4, 2) := by decide +kernel
theorem dX4_bothWouldSwap_19 : decode cX4_bothWouldSwap 19 = .ok (.aload_n 0, 1) := by decide +kernel
theorem dX4_bothWouldSwap_20 : decode cX4_bothWouldSwap 20 = .ok (.getfield 12, 3) := by decide +kernel
theorem dX4_bothWouldSwap_23 : decode cX4_bothWouldSwap 23 = .ok (.iload_n 2, 1) := by decide +kernel
theorem dX4_bothWouldSwap_24 : decode cX4_bothWouldSwap 24 = .ok (.iload_n 3, 1) := by decide +kernel
theorem dX4_bothWouldSwap_25 : decode cX4_bothWouldSwap 25 = .ok (.invokevirtual 187, 3) := by decide +kernel
theorem dX4_bothWouldSwap_28 : decode cX4_bothWouldSwap 28 = .ok (.istore 5, 2) := by decide +kernel
theorem dX4_bothWouldSwap_30 : decode cX4_bothWouldSwap 30 = .ok (.aload_n 0, 1) := by decide +kernel
theorem dX4_bothWouldSwap_31 : decode cX4_bothWouldSwap 31 = .ok (.getfield 12, 3) := by decide +kernel
theorem dX4_bothWouldSwap_34 : decode cX4_bothWouldSwap 34 = .ok (.iload_n 1, 1) := by decide +kernel
theorem dX4_bothWouldSwap_35 : decode cX4_bothWouldSwap 35 = .ok (.iload_n 2, 1) := by decide +kernel
theorem dX4_bothWouldSwap_36 : decode cX4_bothWouldSwap 36 = .ok (.invokevirtual 285, 3) := by decide +kernel
theorem dX4_bothWouldSwap_39 : decode cX4_bothWouldSwap 39 = .ok (.aload_n 0, 1) := by decide +kernel
theorem dX4_bothWouldSwap_40 : decode cX4_bothWouldSwap 40 = .ok (.getfield 12, 3) := by decide +kernel
theorem dX4_bothWouldSwap_43 : decode cX4_bothWouldSwap 43 = .ok (.iload_n 1, 1) := by decide +kernel
theorem dX4_bothWouldSwap_44 : decode cX4_bothWouldSwap 44 = .ok (.iload_n 3, 1) := by decide +kernel
theorem dX4_bothWouldSwap_45 : decode cX4_bothWouldSwap 45 = .ok (.invokevirtual 187, 3) := by decide +kernel
theorem dX4_bothWouldSwap_48 : decode cX4_bothWouldSwap 48 = .ok (.iload 4, 2) := by decide +kernel
theorem dX4_bothWouldSwap_50 : decode cX4_bothWouldSwap 50 = .ok (.if_icmp .le 21, 3) := by decide +kernel
theorem dX4_bothWouldSwap_53 : decode cX4_bothWouldSwap 53 = .ok (.aload_n 0, 1) := by decide +kernel
theorem dX4_bothWouldSwap_54 : decode cX4_bothWouldSwap 54 = .ok (.getfield 12, 3) := by decide +kernel
theorem dX4_bothWouldSwap_57 : decode cX4_bothWouldSwap 57 = .ok (.iload_n 2, 1) := by decide +kernel
theorem dX4_bothWouldSwap_58 : decode cX4_bothWouldSwap 58 = .ok (.iload_n 3, 1) := by decide +kernel
theorem dX4_bothWouldSwap_59 : decode cX4_bothWouldSwap 59 = .ok (.invokevirtual 187, 3) := by decide +kernel
theorem dX4_bothWouldSwap_62 : decode cX4_bothWouldSwap 62 = .ok (.iload 5, 2) := by decide +kernel
theorem dX4_bothWouldSwap_64 : decode cX4_bothWouldSwap 64 = .ok (.if_icmp .le 7, 3) := by decide +kernel
theorem dX4_bothWouldSwap_67 : decode cX4_bothWouldSwap 67 = .ok (.iconst 1, 1) := by decide +kernel
theorem dX4_bothWouldSwap_68 : decode cX4_bothWouldSwap 68 = .ok (.goto 4, 3) := by decide +kernel
theorem dX4_bothWouldSwap_71 : decode cX4_bothWouldSwap 71 = .ok (.iconst 0, 1) := by decide +kernel
theorem dX4_bothWouldSwap_72 : decode cX4_bothWouldSwap 72 = .ok (.istore 6, 2) := by decide +kernel
theorem dX4_bothWouldSwap_74 : decode cX4_bothWouldSwap 74 = .ok (.aload_n 0, 1) := by decide +kernel
theorem dX4_bothWouldSwap_75 : decode cX4_bothWouldSwap 75 = .ok (.getfield 12, 3) := by decide +kernel
theorem dX4_bothWouldSwap_78 : decode cX4_bothWouldSwap 78 = .ok (.iload_n 1, 1) := by decide +kernel
theorem dX4_bothWouldSwap_79 : decode cX4_bothWouldSwap 79 = .ok (.iload_n 2, 1) := by decide +kernel
theorem dX4_bothWouldSwap_80 : decode cX4_bothWouldSwap 80 = .ok (.invokevirtual 285, 3) := by decide +kernel
theorem dX4_bothWouldSwap_83 : decode cX4_bothWouldSwap 83 = .ok (.iload 6, 2) := by decide +kernel
theorem dX4_bothWouldSwap_85 : decode cX4_bothWouldSwap 85 = .ok (.ireturn, 1) := by decide +kernel
theorem dX4_rests_0 : decode cX4_rests 0 = .ok (.iload_n 0, 1) := by decide +kernel
theorem dX4_rests_1 : decode cX4_rests 1 = .ok (.iload_n 1, 1) := by decide +kernel
theorem dX4_rests_2 : decode cX4_rests 2 = .ok (.iload_n 2, 1) := by decide +kernel
theorem dX4_rests_3 : decode cX4_rests 3 = .ok (.iload_n 3, 1) := by decide +kernel
theorem dX4_rests_4 : decode cX4_rests 4 = .ok (.invokestatic 288, 3) := by decide +kernel
theorem dX4_rests_7 : decode cX4_rests 7 = .ok (.iload_n 0, 1) := by decide +kernel
theorem dX4_rests_8 : decode cX4_rests 8 = .ok (.iload_n 1, 1) := by decide +kernel
theorem dX4_rests_9 : decode cX4_rests 9 = .ok (.ifCond .ne 7, 3) := by decide +kernel
theorem dX4_rests_12 : decode cX4_rests 12 = .ok (.iconst 1, 1) := by decide +kernel
theorem dX4_rests_13 : decode cX4_rests 13 = .ok (.goto 4, 3) := by decide +kernel
theorem dX4_rests_16 : decode cX4_rests 16 = .ok (.iconst 0, 1) := by decide +kernel
theorem dX4_rests_17 : decode cX4_rests 17 = .ok (.iload_n 2, 1) := by decide +kernel
theorem dX4_rests_18 : decode cX4_rests 18 = .ok (.iload_n 3, 1) := by decide +kernel
theorem dX4_rests_19 : decode cX4_rests 19 = .ok (.invokestatic 288, 3) := by decide +kernel
theorem dX4_rests_22 : decode cX4_rests 22 = .ok (.if_icmp .lt 30, 3) := by decide +kernel
theorem dX4_rests_25 : decode cX4_rests 25 = .ok (.iload_n 0, 1) := by decide +kernel
theorem dX4_rests_26 : decode cX4_rests 26 = .ok (.iload_n 1, 1) := by decide +kernel
theorem dX4_rests_27 : decode cX4_rests 27 = .ok (.iload_n 3, 1) := by decide +kernel
theorem dX4_rests_28 : decode cX4_rests 28 = .ok (.invokestatic 292, 3) := by decide +kernel
theorem dX4_rests_31 : decode cX4_rests 31 = .ok (.iload_n 0, 1) := by decide +kernel
theorem dX4_rests_32 : decode cX4_rests 32 = .ok (.ifCond .ne 7, 3) := by decide +kernel
theorem dX4_rests_35 : decode cX4_rests 35 = .ok (.iconst 1, 1) := by decide +kernel
theorem dX4_rests_36 : decode cX4_rests 36 = .ok (.goto 4, 3) := by decide +kernel
theorem dX4_rests_39 : decode cX4_rests 39 = .ok (.iconst 0, 1) := by decide +kernel
theorem dX4_rests_40 : decode cX4_rests 40 = .ok (.iload_n 1, 1) := by decide +kernel
theorem dX4_rests_41 : decode cX4_rests 41 = .ok (.iload_n 3, 1) := by decide +kernel
theorem dX4_rests_42 : decode cX4_rests 42 = .ok (.invokestatic 292, 3) := by decide +kernel
theorem dX4_rests_45 : decode cX4_rests 45 = .ok (.if_icmp .lt 7, 3) := by decide +kernel
theorem dX4_rests_48 : decode cX4_rests 48 = .ok (.iconst 1, 1) := by decide +kernel
theorem dX4_rests_49 : decode cX4_rests 49 = .ok (.goto 4, 3) := by decide +kernel
theorem dX4_rests_52 : decode cX4_rests 52 = .ok (.iconst 0, 1) := by decide +kernel
theorem dX4_rests_53 : decode cX4_rests 53 = .ok (.ireturn, 1) := by decide +kernel
theorem dX4_toWell_0 : decode cX4_toWell 0 = .ok (.iload_n 1, 1) := by decide +kernel
theorem dX4_toWell_1 : decode cX4_toWell 1 = .ok (.ifCond .ne 5, 3) := by decide +kernel
theorem dX4_toWell_4 : decode cX4_toWell 4 = .ok (.iconst 0, 1) := by decide +kernel
theorem dX4_toWell_5 : decode cX4_toWell 5 = .ok (.ireturn, 1) := by decide +kernel
theorem dX4_toWell_6 : decode cX4_toWell 6 = .ok (.iload_n 0, 1) := by decide +kernel
theorem dX4_toWell_7 : decode cX4_toWell 7 = .ok (.ifCond .eq 14, 3) := by decide +kernel
theorem dX4_toWell_10 : decode cX4_toWell 10 = .ok (.iload_n 3, 1) := by decide +kernel
theorem dX4_toWell_11 : decode cX4_toWell 11 = .ok (.ifCond .eq 10, 3) := by decide +kernel
theorem dX4_toWell_14 : decode cX4_toWell 14 = .ok (.iload_n 2, 1) := by decide +kernel
theorem dX4_toWell_15 : decode cX4_toWell 15 = .ok (.bipush 20, 2) := by decide +kernel
theorem dX4_toWell_17 : decode cX4_toWell 17 = .ok (.isub, 1) := by decide +kernel
theorem dX4_toWell_18 : decode cX4_toWell 18 = .ok (.goto 4, 3) := by decide +kernel
theorem dX4_toWell_21 : decode cX4_toWell 21 = .ok (.iload_n 2, 1) := by decide +kernel
theorem dX4_toWell_22 : decode cX4_toWell 22 = .ok (.ireturn, 1) := by decide +kernel
theorem dX4_toInspector_0 : decode cX4_toInspector 0 = .ok (.iload_n 0, 1) := by decide +kernel
theorem dX4_toInspector_1 : decode cX4_toInspector 1 = .ok (.ifCond .ne 5, 3) := by decide +kernel
theorem dX4_toInspector_4 : decode cX4_toInspector 4 = .ok (.iconst 0, 1) := by decide +kernel
theorem dX4_toInspector_5 : decode cX4_toInspector 5 = .ok (.ireturn, 1) := by decide +kernel
theorem dX4_toInspector_6 : decode cX4_toInspector 6 = .ok (.iload_n 1, 1) := by decide +kernel
theorem dX4_toInspector_7 : decode cX4_toInspector 7 = .ok (.ifCond .eq 11, 3) := by decide +kernel
theorem dX4_toInspector_10 : decode cX4_toInspector 10 = .ok (.iload_n 2, 1) := by decide +kernel
theorem dX4_toInspector_11 : decode cX4_toInspector 11 = .ok (.ifCond .eq 7, 3) := by decide +kernel
theorem dX4_toInspector_14 : decode cX4_toInspector 14 = .ok (.iconst 5, 1) := by decide +kernel
theorem dX4_toInspector_15 : decode cX4_toInspector 15 = .ok (.goto 4, 3) := by decide +kernel
theorem dX4_toInspector_18 : decode cX4_toInspector 18 = .ok (.iconst (-1), 1) := by decide +kernel
theorem dX4_toInspector_19 : decode cX4_toInspector 19 = .ok (.ireturn, 1) := by decide +kernel
theorem dX4_setFraction_0 : decode cX4_setFraction 0 = .ok (.iload_n 1, 1) := by decide +kernel
theorem dX4_setFraction_1 : decode cX4_setFraction 1 = .ok (.iload_n 2, 1) := by decide +kernel
theorem dX4_setFraction_2 : decode cX4_setFraction 2 = .ok (.invokestatic 296, 3) := by decide +kernel
theorem dX4_setFraction_5 : decode cX4_setFraction 5 = .ok (.istore_n 3, 1) := by decide +kernel
theorem dX4_setFraction_6 : decode cX4_setFraction 6 = .ok (.iload_n 3, 1) := by decide +kernel
theorem dX4_setFraction_7 : decode cX4_setFraction 7 = .ok (.ifCond .ne 4, 3) := by decide +kernel
theorem dX4_setFraction_10 : decode cX4_setFraction 10 = .ok (.return_, 1) := by decide +kernel
theorem dX4_setFraction_11 : decode cX4_setFraction 11 = .ok (.aload_n 0, 1) := by decide +kernel
theorem dX4_setFraction_12 : decode cX4_setFraction 12 = .ok (.iload_n 1, 1) := by decide +kernel
theorem dX4_setFraction_13 : decode cX4_setFraction 13 = .ok (.iload_n 3, 1) := by decide +kernel
theorem dX4_setFraction_14 : decode cX4_setFraction 14 = .ok (.idiv, 1) := by decide +kernel
theorem dX4_setFraction_15 : decode cX4_setFraction 15 = .ok (.putfield 34, 3) := by decide +kernel
theorem dX4_setFraction_18 : decode cX4_setFraction 18 = .ok (.aload_n 0, 1) := by decide +kernel
theorem dX4_setFraction_19 : decode cX4_setFraction 19 = .ok (.iload_n 2, 1) := by decide +kernel
theorem dX4_setFraction_20 : decode cX4_setFraction 20 = .ok (.iload_n 3, 1) := by decide +kernel
theorem dX4_setFraction_21 : decode cX4_setFraction 21 = .ok (.idiv, 1) := by decide +kernel
theorem dX4_setFraction_22 : decode cX4_setFraction 22 = .ok (.putfield 38, 3) := by decide +kernel
theorem dX4_setFraction_25 : decode cX4_setFraction 25 = .ok (.return_, 1) := by decide +kernel
theorem dX4_commonDivisor_0 : decode cX4_commonDivisor 0 = .ok (.iload_n 0, 1) := by decide +kernel
theorem dX4_commonDivisor_1 : decode cX4_commonDivisor 1 = .ok (.istore_n 2, 1) := by decide +kernel
theorem dX4_commonDivisor_2 : decode cX4_commonDivisor 2 = .ok (.iload_n 1, 1) := by decide +kernel
theorem dX4_commonDivisor_3 : decode cX4_commonDivisor 3 = .ok (.istore_n 3, 1) := by decide +kernel
theorem dX4_commonDivisor_4 : decode cX4_commonDivisor 4 = .ok (.iconst 0, 1) := by decide +kernel
theorem dX4_commonDivisor_5 : decode cX4_commonDivisor 5 = .ok (.istore 4, 2) := by decide +kernel
theorem dX4_commonDivisor_7 : decode cX4_commonDivisor 7 = .ok (.iload 4, 2) := by decide +kernel
theorem dX4_commonDivisor_9 : decode cX4_commonDivisor 9 = .ok (.bipush 100, 2) := by decide +kernel
theorem dX4_commonDivisor_11 : decode cX4_commonDivisor 11 = .ok (.if_icmp .ge 23, 3) := by decide +kernel
theorem dX4_commonDivisor_14 : decode cX4_commonDivisor 14 = .ok (.iload_n 3, 1) := by decide +kernel
theorem dX4_commonDivisor_15 : decode cX4_commonDivisor 15 = .ok (.ifCond .eq 19, 3) := by decide +kernel
theorem dX4_commonDivisor_18 : decode cX4_commonDivisor 18 = .ok (.iload_n 2, 1) := by decide +kernel
theorem dX4_commonDivisor_19 : decode cX4_commonDivisor 19 = .ok (.iload_n 3, 1) := by decide +kernel
theorem dX4_commonDivisor_20 : decode cX4_commonDivisor 20 = .ok (.irem, 1) := by decide +kernel
theorem dX4_commonDivisor_21 : decode cX4_commonDivisor 21 = .ok (.istore 5, 2) := by decide +kernel
theorem dX4_commonDivisor_23 : decode cX4_commonDivisor 23 = .ok (.iload_n 3, 1) := by decide +kernel
theorem dX4_commonDivisor_24 : decode cX4_commonDivisor 24 = .ok (.istore_n 2, 1) := by decide +kernel
theorem dX4_commonDivisor_25 : decode cX4_commonDivisor 25 = .ok (.iload 5, 2) := by decide +kernel
theorem dX4_commonDivisor_27 : decode cX4_commonDivisor 27 = .ok (.istore_n 3, 1) := by decide +kernel
theorem dX4_commonDivisor_28 : decode cX4_commonDivisor 28 = .ok (.iinc 4 1, 3) := by decide +kernel
theorem dX4_commonDivisor_31 : decode cX4_commonDivisor 31 = .ok (.goto (-24), 3) := by decide +kernel
theorem dX4_commonDivisor_34 : decode cX4_commonDivisor 34 = .ok (.iload_n 2, 1) := by decide +kernel
theorem dX4_commonDivisor_35 : decode cX4_commonDivisor 35 = .ok (.ireturn, 1) := by decide +kernel
theorem dX4_howMany_0 : decode cX4_howMany 0 = .ok (.iload_n 1, 1) := by decide +kernel
theorem dX4_howMany_1 : decode cX4_howMany 1 = .ok (.tableswitch 125 0 7 #[47, 55, 63, 71, 86, 101, 109, 117], 47) := by decide +kernel
theorem dX4_howMany_48 : decode cX4_howMany 48 = .ok (.aload_n 0, 1) := by decide +kernel
theorem dX4_howMany_49 : decode cX4_howMany 49 = .ok (.getfield 12, 3) := by decide +kernel
theorem dX4_howMany_52 : decode cX4_howMany 52 = .ok (.getfield 58, 3) := by decide +kernel
theorem dX4_howMany_55 : decode cX4_howMany 55 = .ok (.ireturn, 1) := by decide +kernel
theorem dX4_howMany_56 : decode cX4_howMany 56 = .ok (.aload_n 0, 1) := by decide +kernel
theorem dX4_howMany_57 : decode cX4_howMany 57 = .ok (.getfield 12, 3) := by decide +kernel
theorem dX4_howMany_60 : decode cX4_howMany 60 = .ok (.getfield 115, 3) := by decide +kernel
theorem dX4_howMany_63 : decode cX4_howMany 63 = .ok (.ireturn, 1) := by decide +kernel
theorem dX4_howMany_64 : decode cX4_howMany 64 = .ok (.aload_n 0, 1) := by decide +kernel
theorem dX4_howMany_65 : decode cX4_howMany 65 = .ok (.getfield 12, 3) := by decide +kernel
theorem dX4_howMany_68 : decode cX4_howMany 68 = .ok (.getfield 127, 3) := by decide +kernel
theorem dX4_howMany_71 : decode cX4_howMany 71 = .ok (.ireturn, 1) := by decide +kernel
theorem dX4_howMany_72 : decode cX4_howMany 72 = .ok (.aload_n 0, 1) := by decide +kernel
theorem dX4_howMany_73 : decode cX4_howMany 73 = .ok (.getfield 12, 3) := by decide +kernel
theorem dX4_howMany_76 : decode cX4_howMany 76 = .ok (.aload_n 0, 1) := by decide +kernel
theorem dX4_howMany_77 : decode cX4_howMany 77 = .ok (.getfield 12, 3) := by decide +kernel
theorem dX4_howMany_80 : decode cX4_howMany 80 = .ok (.getfield 133, 3) := by decide +kernel
theorem dX4_howMany_83 : decode cX4_howMany 83 = .ok (.invokevirtual 299, 3) := by decide +kernel
theorem dX4_howMany_86 : decode cX4_howMany 86 = .ok (.ireturn, 1) := by decide +kernel
theorem dX4_howMany_87 : decode cX4_howMany 87 = .ok (.aload_n 0, 1) := by decide +kernel
theorem dX4_howMany_88 : decode cX4_howMany 88 = .ok (.getfield 12, 3) := by decide +kernel
theorem dX4_howMany_91 : decode cX4_howMany 91 = .ok (.aload_n 0, 1) := by decide +kernel
theorem dX4_howMany_92 : decode cX4_howMany 92 = .ok (.getfield 12, 3) := by decide +kernel
theorem dX4_howMany_95 : decode cX4_howMany 95 = .ok (.getfield 136, 3) := by decide +kernel
theorem dX4_howMany_98 : decode cX4_howMany 98 = .ok (.invokevirtual 299, 3) := by decide +kernel
theorem dX4_howMany_101 : decode cX4_howMany 101 = .ok (.ireturn, 1) := by decide +kernel
theorem dX4_howMany_102 : decode cX4_howMany 102 = .ok (.aload_n 0, 1) := by decide +kernel
theorem dX4_howMany_103 : decode cX4_howMany 103 = .ok (.getfield 12, 3) := by decide +kernel
theorem dX4_howMany_106 : decode cX4_howMany 106 = .ok (.getfield 190, 3) := by decide +kernel
theorem dX4_howMany_109 : decode cX4_howMany 109 = .ok (.ireturn, 1) := by decide +kernel
theorem dX4_howMany_110 : decode cX4_howMany 110 = .ok (.aload_n 0, 1) := by decide +kernel
theorem dX4_howMany_111 : decode cX4_howMany 111 = .ok (.getfield 12, 3) := by decide +kernel
theorem dX4_howMany_114 : decode cX4_howMany 114 = .ok (.getfield 199, 3) := by decide +kernel
theorem dX4_howMany_117 : decode cX4_howMany 117 = .ok (.ireturn, 1) := by decide +kernel
theorem dX4_howMany_118 : decode cX4_howMany 118 = .ok (.aload_n 0, 1) := by decide +kernel
theorem dX4_howMany_119 : decode cX4_howMany 119 = .ok (.getfield 12, 3) := by decide +kernel
theorem dX4_howMany_122 : decode cX4_howMany 122 = .ok (.getfield 118, 3) := by decide +kernel
theorem dX4_howMany_125 : decode cX4_howMany 125 = .ok (.ireturn, 1) := by decide +kernel
theorem dX4_howMany_126 : decode cX4_howMany 126 = .ok (.aload_n 0, 1) := by decide +kernel
theorem dX4_howMany_127 : decode cX4_howMany 127 = .ok (.getfield 30, 3) := by decide +kernel
theorem dX4_howMany_130 : decode cX4_howMany 130 = .ok (.getfield 79, 3) := by decide +kernel
theorem dX4_howMany_133 : decode cX4_howMany 133 = .ok (.ireturn, 1) := by decide +kernel
