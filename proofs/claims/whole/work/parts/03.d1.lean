theorem dX3_daysOfTailors_148 : decode cX3_daysOfTailors 148 = .ok (.invokestatic 100, 3) := by decide +kernel
theorem dX3_daysOfTailors_151 : decode cX3_daysOfTailors 151 = .ok (.istore_n 3, 1) := by decide +kernel
theorem dX3_daysOfTailors_152 : decode cX3_daysOfTailors 152 = .ok (.iinc 5 1, 3) := by decide +kernel
theorem dX3_daysOfTailors_155 : decode cX3_daysOfTailors 155 = .ok (.goto (-109), 3) := by decide +kernel
theorem dX3_daysOfTailors_158 : decode cX3_daysOfTailors 158 = .ok (.iinc 4 1, 3) := by decide +kernel
theorem dX3_daysOfTailors_161 : decode cX3_daysOfTailors 161 = .ok (.goto (-137), 3) := by decide +kernel
theorem dX3_daysOfTailors_164 : decode cX3_daysOfTailors 164 = .ok (.iload_n 3, 1) := by decide +kernel
theorem dX3_daysOfTailors_165 : decode cX3_daysOfTailors 165 = .ok (.ireturn, 1) := by decide +kernel
theorem dX3_readyOn_0 : decode cX3_readyOn 0 = .ok (.iconst 0, 1) := by decide +kernel
theorem dX3_readyOn_1 : decode cX3_readyOn 1 = .ok (.istore_n 3, 1) := by decide +kernel
theorem dX3_readyOn_2 : decode cX3_readyOn 2 = .ok (.iconst 0, 1) := by decide +kernel
theorem dX3_readyOn_3 : decode cX3_readyOn 3 = .ok (.istore 4, 2) := by decide +kernel
theorem dX3_readyOn_5 : decode cX3_readyOn 5 = .ok (.iload 4, 2) := by decide +kernel
theorem dX3_readyOn_7 : decode cX3_readyOn 7 = .ok (.aload_n 0, 1) := by decide +kernel
theorem dX3_readyOn_8 : decode cX3_readyOn 8 = .ok (.getfield 47, 3) := by decide +kernel
theorem dX3_readyOn_11 : decode cX3_readyOn 11 = .ok (.if_icmp .ge 27, 3) := by decide +kernel
theorem dX3_readyOn_14 : decode cX3_readyOn 14 = .ok (.aload_n 0, 1) := by decide +kernel
theorem dX3_readyOn_15 : decode cX3_readyOn 15 = .ok (.getfield 28, 3) := by decide +kernel
theorem dX3_readyOn_18 : decode cX3_readyOn 18 = .ok (.iload 4, 2) := by decide +kernel
theorem dX3_readyOn_20 : decode cX3_readyOn 20 = .ok (.iaload, 1) := by decide +kernel
theorem dX3_readyOn_21 : decode cX3_readyOn 21 = .ok (.iload_n 1, 1) := by decide +kernel
theorem dX3_readyOn_22 : decode cX3_readyOn 22 = .ok (.if_icmp .gt 10, 3) := by decide +kernel
theorem dX3_readyOn_25 : decode cX3_readyOn 25 = .ok (.iload_n 3, 1) := by decide +kernel
theorem dX3_readyOn_26 : decode cX3_readyOn 26 = .ok (.iconst 1, 1) := by decide +kernel
theorem dX3_readyOn_27 : decode cX3_readyOn 27 = .ok (.iload 4, 2) := by decide +kernel
theorem dX3_readyOn_29 : decode cX3_readyOn 29 = .ok (.ishl, 1) := by decide +kernel
theorem dX3_readyOn_30 : decode cX3_readyOn 30 = .ok (.ior, 1) := by decide +kernel
theorem dX3_readyOn_31 : decode cX3_readyOn 31 = .ok (.istore_n 3, 1) := by decide +kernel
theorem dX3_readyOn_32 : decode cX3_readyOn 32 = .ok (.iinc 4 1, 3) := by decide +kernel
theorem dX3_readyOn_35 : decode cX3_readyOn 35 = .ok (.goto (-30), 3) := by decide +kernel
theorem dX3_readyOn_38 : decode cX3_readyOn 38 = .ok (.iconst 0, 1) := by decide +kernel
theorem dX3_readyOn_39 : decode cX3_readyOn 39 = .ok (.istore 4, 2) := by decide +kernel
theorem dX3_readyOn_41 : decode cX3_readyOn 41 = .ok (.iload 4, 2) := by decide +kernel
theorem dX3_readyOn_43 : decode cX3_readyOn 43 = .ok (.aload_n 0, 1) := by decide +kernel
theorem dX3_readyOn_44 : decode cX3_readyOn 44 = .ok (.getfield 47, 3) := by decide +kernel
theorem dX3_readyOn_47 : decode cX3_readyOn 47 = .ok (.if_icmp .ge 35, 3) := by decide +kernel
theorem dX3_readyOn_50 : decode cX3_readyOn 50 = .ok (.iload_n 2, 1) := by decide +kernel
theorem dX3_readyOn_51 : decode cX3_readyOn 51 = .ok (.iload 4, 2) := by decide +kernel
theorem dX3_readyOn_53 : decode cX3_readyOn 53 = .ok (.ishr, 1) := by decide +kernel
theorem dX3_readyOn_54 : decode cX3_readyOn 54 = .ok (.iconst 1, 1) := by decide +kernel
theorem dX3_readyOn_55 : decode cX3_readyOn 55 = .ok (.iand, 1) := by decide +kernel
theorem dX3_readyOn_56 : decode cX3_readyOn 56 = .ok (.ifCond .ne 20, 3) := by decide +kernel
theorem dX3_readyOn_59 : decode cX3_readyOn 59 = .ok (.aload_n 0, 1) := by decide +kernel
theorem dX3_readyOn_60 : decode cX3_readyOn 60 = .ok (.getfield 18, 3) := by decide +kernel
theorem dX3_readyOn_63 : decode cX3_readyOn 63 = .ok (.iload 4, 2) := by decide +kernel
theorem dX3_readyOn_65 : decode cX3_readyOn 65 = .ok (.iaload, 1) := by decide +kernel
theorem dX3_readyOn_66 : decode cX3_readyOn 66 = .ok (.iload_n 3, 1) := by decide +kernel
theorem dX3_readyOn_67 : decode cX3_readyOn 67 = .ok (.iconst (-1), 1) := by decide +kernel
theorem dX3_readyOn_68 : decode cX3_readyOn 68 = .ok (.ixor, 1) := by decide +kernel
theorem dX3_readyOn_69 : decode cX3_readyOn 69 = .ok (.iand, 1) := by decide +kernel
theorem dX3_readyOn_70 : decode cX3_readyOn 70 = .ok (.ifCond .ne 6, 3) := by decide +kernel
theorem dX3_readyOn_73 : decode cX3_readyOn 73 = .ok (.iload 4, 2) := by decide +kernel
theorem dX3_readyOn_75 : decode cX3_readyOn 75 = .ok (.ireturn, 1) := by decide +kernel
theorem dX3_readyOn_76 : decode cX3_readyOn 76 = .ok (.iinc 4 1, 3) := by decide +kernel
theorem dX3_readyOn_79 : decode cX3_readyOn 79 = .ok (.goto (-38), 3) := by decide +kernel
theorem dX3_readyOn_82 : decode cX3_readyOn 82 = .ok (.iconst (-1), 1) := by decide +kernel
theorem dX3_readyOn_83 : decode cX3_readyOn 83 = .ok (.ireturn, 1) := by decide +kernel
theorem dX3_fewestSpools_0 : decode cX3_fewestSpools 0 = .ok (.aload_n 0, 1) := by decide +kernel
theorem dX3_fewestSpools_1 : decode cX3_fewestSpools 1 = .ok (.getfield 37, 3) := by decide +kernel
theorem dX3_fewestSpools_4 : decode cX3_fewestSpools 4 = .ok (.iconst 0, 1) := by decide +kernel
theorem dX3_fewestSpools_5 : decode cX3_fewestSpools 5 = .ok (.iload_n 2, 1) := by decide +kernel
theorem dX3_fewestSpools_6 : decode cX3_fewestSpools 6 = .ok (.iastore, 1) := by decide +kernel
theorem dX3_fewestSpools_7 : decode cX3_fewestSpools 7 = .ok (.iconst 1, 1) := by decide +kernel
theorem dX3_fewestSpools_8 : decode cX3_fewestSpools 8 = .ok (.istore_n 3, 1) := by decide +kernel
theorem dX3_fewestSpools_9 : decode cX3_fewestSpools 9 = .ok (.iload_n 3, 1) := by decide +kernel
theorem dX3_fewestSpools_10 : decode cX3_fewestSpools 10 = .ok (.iconst 1, 1) := by decide +kernel
theorem dX3_fewestSpools_11 : decode cX3_fewestSpools 11 = .ok (.aload_n 0, 1) := by decide +kernel
theorem dX3_fewestSpools_12 : decode cX3_fewestSpools 12 = .ok (.getfield 47, 3) := by decide +kernel
theorem dX3_fewestSpools_15 : decode cX3_fewestSpools 15 = .ok (.ishl, 1) := by decide +kernel
theorem dX3_fewestSpools_16 : decode cX3_fewestSpools 16 = .ok (.if_icmp .ge 95, 3) := by decide +kernel
theorem dX3_fewestSpools_19 : decode cX3_fewestSpools 19 = .ok (.aload_n 0, 1) := by decide +kernel
theorem dX3_fewestSpools_20 : decode cX3_fewestSpools 20 = .ok (.getfield 37, 3) := by decide +kernel
theorem dX3_fewestSpools_23 : decode cX3_fewestSpools 23 = .ok (.iload_n 3, 1) := by decide +kernel
theorem dX3_fewestSpools_24 : decode cX3_fewestSpools 24 = .ok (.ldc 99, 2) := by decide +kernel
theorem dX3_fewestSpools_26 : decode cX3_fewestSpools 26 = .ok (.iastore, 1) := by decide +kernel
theorem dX3_fewestSpools_27 : decode cX3_fewestSpools 27 = .ok (.iconst 0, 1) := by decide +kernel
theorem dX3_fewestSpools_28 : decode cX3_fewestSpools 28 = .ok (.istore 4, 2) := by decide +kernel
theorem dX3_fewestSpools_30 : decode cX3_fewestSpools 30 = .ok (.iload 4, 2) := by decide +kernel
theorem dX3_fewestSpools_32 : decode cX3_fewestSpools 32 = .ok (.aload_n 0, 1) := by decide +kernel
theorem dX3_fewestSpools_33 : decode cX3_fewestSpools 33 = .ok (.getfield 47, 3) := by decide +kernel
theorem dX3_fewestSpools_36 : decode cX3_fewestSpools 36 = .ok (.if_icmp .ge 69, 3) := by decide +kernel
theorem dX3_fewestSpools_39 : decode cX3_fewestSpools 39 = .ok (.iload_n 3, 1) := by decide +kernel
theorem dX3_fewestSpools_40 : decode cX3_fewestSpools 40 = .ok (.iload_n 1, 1) := by decide +kernel
theorem dX3_fewestSpools_41 : decode cX3_fewestSpools 41 = .ok (.iconst (-1), 1) := by decide +kernel
theorem dX3_fewestSpools_42 : decode cX3_fewestSpools 42 = .ok (.ixor, 1) := by decide +kernel
theorem dX3_fewestSpools_43 : decode cX3_fewestSpools 43 = .ok (.iand, 1) := by decide +kernel
theorem dX3_fewestSpools_44 : decode cX3_fewestSpools 44 = .ok (.ifCond .ne 55, 3) := by decide +kernel
theorem dX3_fewestSpools_47 : decode cX3_fewestSpools 47 = .ok (.iload_n 3, 1) := by decide +kernel
theorem dX3_fewestSpools_48 : decode cX3_fewestSpools 48 = .ok (.iload 4, 2) := by decide +kernel
theorem dX3_fewestSpools_50 : decode cX3_fewestSpools 50 = .ok (.ishr, 1) := by decide +kernel
theorem dX3_fewestSpools_51 : decode cX3_fewestSpools 51 = .ok (.iconst 1, 1) := by decide +kernel
theorem dX3_fewestSpools_52 : decode cX3_fewestSpools 52 = .ok (.iand, 1) := by decide +kernel
theorem dX3_fewestSpools_53 : decode cX3_fewestSpools 53 = .ok (.iconst 1, 1) := by decide +kernel
theorem dX3_fewestSpools_54 : decode cX3_fewestSpools 54 = .ok (.if_icmp .ne 45, 3) := by decide +kernel
theorem dX3_fewestSpools_57 : decode cX3_fewestSpools 57 = .ok (.aload_n 0, 1) := by decide +kernel
theorem dX3_fewestSpools_58 : decode cX3_fewestSpools 58 = .ok (.getfield 37, 3) := by decide +kernel
theorem dX3_fewestSpools_61 : decode cX3_fewestSpools 61 = .ok (.iload_n 3, 1) := by decide +kernel
theorem dX3_fewestSpools_62 : decode cX3_fewestSpools 62 = .ok (.aload_n 0, 1) := by decide +kernel
theorem dX3_fewestSpools_63 : decode cX3_fewestSpools 63 = .ok (.getfield 37, 3) := by decide +kernel
theorem dX3_fewestSpools_66 : decode cX3_fewestSpools 66 = .ok (.iload_n 3, 1) := by decide +kernel
theorem dX3_fewestSpools_67 : decode cX3_fewestSpools 67 = .ok (.iaload, 1) := by decide +kernel
theorem dX3_fewestSpools_68 : decode cX3_fewestSpools 68 = .ok (.aload_n 0, 1) := by decide +kernel
theorem dX3_fewestSpools_69 : decode cX3_fewestSpools 69 = .ok (.getfield 37, 3) := by decide +kernel
theorem dX3_fewestSpools_72 : decode cX3_fewestSpools 72 = .ok (.iload_n 3, 1) := by decide +kernel
theorem dX3_fewestSpools_73 : decode cX3_fewestSpools 73 = .ok (.iconst 1, 1) := by decide +kernel
theorem dX3_fewestSpools_74 : decode cX3_fewestSpools 74 = .ok (.iload 4, 2) := by decide +kernel
theorem dX3_fewestSpools_76 : decode cX3_fewestSpools 76 = .ok (.ishl, 1) := by decide +kernel
theorem dX3_fewestSpools_77 : decode cX3_fewestSpools 77 = .ok (.iconst (-1), 1) := by decide +kernel
theorem dX3_fewestSpools_78 : decode cX3_fewestSpools 78 = .ok (.ixor, 1) := by decide +kernel
theorem dX3_fewestSpools_79 : decode cX3_fewestSpools 79 = .ok (.iand, 1) := by decide +kernel
theorem dX3_fewestSpools_80 : decode cX3_fewestSpools 80 = .ok (.iaload, 1) := by decide +kernel
theorem dX3_fewestSpools_81 : decode cX3_fewestSpools 81 = .ok (.aload_n 0, 1) := by decide +kernel
theorem dX3_fewestSpools_82 : decode cX3_fewestSpools 82 = .ok (.getfield 12, 3) := by decide +kernel
theorem dX3_fewestSpools_85 : decode cX3_fewestSpools 85 = .ok (.getfield 140, 3) := by decide +kernel
theorem dX3_fewestSpools_88 : decode cX3_fewestSpools 88 = .ok (.iload 4, 2) := by decide +kernel
theorem dX3_fewestSpools_90 : decode cX3_fewestSpools 90 = .ok (.iaload, 1) := by decide +kernel
theorem dX3_fewestSpools_91 : decode cX3_fewestSpools 91 = .ok (.iload_n 2, 1) := by decide +kernel
theorem dX3_fewestSpools_92 : decode cX3_fewestSpools 92 = .ok (.invokestatic 146, 3) := by decide +kernel
theorem dX3_fewestSpools_95 : decode cX3_fewestSpools 95 = .ok (.invokestatic 111, 3) := by decide +kernel
theorem dX3_fewestSpools_98 : decode cX3_fewestSpools 98 = .ok (.iastore, 1) := by decide +kernel
theorem dX3_fewestSpools_99 : decode cX3_fewestSpools 99 = .ok (.iinc 4 1, 3) := by decide +kernel
theorem dX3_fewestSpools_102 : decode cX3_fewestSpools 102 = .ok (.goto (-72), 3) := by decide +kernel
theorem dX3_fewestSpools_105 : decode cX3_fewestSpools 105 = .ok (.iinc 3 1, 3) := by decide +kernel
theorem dX3_fewestSpools_108 : decode cX3_fewestSpools 108 = .ok (.goto (-99), 3) := by decide +kernel
theorem dX3_fewestSpools_111 : decode cX3_fewestSpools 111 = .ok (.iload_n 1, 1) := by decide +kernel
theorem dX3_fewestSpools_112 : decode cX3_fewestSpools 112 = .ok (.ifCond .lt 10, 3) := by decide +kernel
theorem dX3_fewestSpools_115 : decode cX3_fewestSpools 115 = .ok (.iload_n 1, 1) := by decide +kernel
theorem dX3_fewestSpools_116 : decode cX3_fewestSpools 116 = .ok (.sipush 512, 3) := by decide +kernel
theorem dX3_fewestSpools_119 : decode cX3_fewestSpools 119 = .ok (.if_icmp .lt 7, 3) := by decide +kernel
theorem dX3_fewestSpools_122 : decode cX3_fewestSpools 122 = .ok (.iconst 0, 1) := by decide +kernel
theorem dX3_fewestSpools_123 : decode cX3_fewestSpools 123 = .ok (.goto 12, 3) := by decide +kernel
theorem dX3_fewestSpools_126 : decode cX3_fewestSpools 126 = .ok (.aload_n 0, 1) := by decide +kernel
theorem dX3_fewestSpools_127 : decode cX3_fewestSpools 127 = .ok (.getfield 37, 3) := by decide +kernel
theorem dX3_fewestSpools_130 : decode cX3_fewestSpools 130 = .ok (.iload_n 1, 1) := by decide +kernel
theorem dX3_fewestSpools_131 : decode cX3_fewestSpools 131 = .ok (.iaload, 1) := by decide +kernel
theorem dX3_fewestSpools_132 : decode cX3_fewestSpools 132 = .ok (.bipush 100, 2) := by decide +kernel
theorem dX3_fewestSpools_134 : decode cX3_fewestSpools 134 = .ok (.idiv, 1) := by decide +kernel
theorem dX3_fewestSpools_135 : decode cX3_fewestSpools 135 = .ok (.ireturn, 1) := by decide +kernel
theorem dX3_wound_0 : decode cX3_wound 0 = .ok (.iload_n 0, 1) := by decide +kernel
theorem dX3_wound_1 : decode cX3_wound 1 = .ok (.bipush 100, 2) := by decide +kernel
theorem dX3_wound_3 : decode cX3_wound 3 = .ok (.irem, 1) := by decide +kernel
theorem dX3_wound_4 : decode cX3_wound 4 = .ok (.istore_n 3, 1) := by decide +kernel
theorem dX3_wound_5 : decode cX3_wound 5 = .ok (.iload_n 3, 1) := by decide +kernel
theorem dX3_wound_6 : decode cX3_wound 6 = .ok (.iload_n 1, 1) := by decide +kernel
theorem dX3_wound_7 : decode cX3_wound 7 = .ok (.iadd, 1) := by decide +kernel
theorem dX3_wound_8 : decode cX3_wound 8 = .ok (.iload_n 2, 1) := by decide +kernel
theorem dX3_wound_9 : decode cX3_wound 9 = .ok (.if_icmp .gt 9, 3) := by decide +kernel
theorem dX3_wound_12 : decode cX3_wound 12 = .ok (.iload_n 0, 1) := by decide +kernel
theorem dX3_wound_13 : decode cX3_wound 13 = .ok (.iload_n 1, 1) := by decide +kernel
theorem dX3_wound_14 : decode cX3_wound 14 = .ok (.iadd, 1) := by decide +kernel
theorem dX3_wound_15 : decode cX3_wound 15 = .ok (.goto 11, 3) := by decide +kernel
theorem dX3_wound_18 : decode cX3_wound 18 = .ok (.iload_n 0, 1) := by decide +kernel
theorem dX3_wound_19 : decode cX3_wound 19 = .ok (.iload_n 3, 1) := by decide +kernel
theorem dX3_wound_20 : decode cX3_wound 20 = .ok (.isub, 1) := by decide +kernel
theorem dX3_wound_21 : decode cX3_wound 21 = .ok (.bipush 100, 2) := by decide +kernel
theorem dX3_wound_23 : decode cX3_wound 23 = .ok (.iadd, 1) := by decide +kernel
theorem dX3_wound_24 : decode cX3_wound 24 = .ok (.iload_n 1, 1) := by decide +kernel
theorem dX3_wound_25 : decode cX3_wound 25 = .ok (.iadd, 1) := by decide +kernel
theorem dX3_wound_26 : decode cX3_wound 26 = .ok (.ireturn, 1) := by decide +kernel
theorem dX4_init_0 : decode cX4_init 0 = .ok (.aload_n 0, 1) := by decide +kernel
theorem dX4_init_1 : decode cX4_init 1 = .ok (.invokespecial 3, 3) := by decide +kernel
theorem dX4_init_4 : decode cX4_init 4 = .ok (.aload_n 0, 1) := by decide +kernel
theorem dX4_init_5 : decode cX4_init 5 = .ok (.bipush 10, 2) := by decide +kernel
theorem dX4_init_7 : decode cX4_init 7 = .ok (.newarray .int, 2) := by decide +kernel
theorem dX4_init_9 : decode cX4_init 9 = .ok (.putfield 9, 3) := by decide +kernel
theorem dX4_init_12 : decode cX4_init 12 = .ok (.aload_n 0, 1) := by decide +kernel
theorem dX4_init_13 : decode cX4_init 13 = .ok (.bipush 10, 2) := by decide +kernel
theorem dX4_init_15 : decode cX4_init 15 = .ok (.newarray .int, 2) := by decide +kernel
theorem dX4_init_17 : decode cX4_init 17 = .ok (.putfield 15, 3) := by decide +kernel
theorem dX4_init_20 : decode cX4_init 20 = .ok (.aload_n 0, 1) := by decide +kernel
theorem dX4_init_21 : decode cX4_init 21 = .ok (.bipush 10, 2) := by decide +kernel
theorem dX4_init_23 : decode cX4_init 23 = .ok (.newarray .int, 2) := by decide +kernel
theorem dX4_init_25 : decode cX4_init 25 = .ok (.putfield 18, 3) := by decide +kernel
theorem dX4_init_28 : decode cX4_init 28 = .ok (.return_, 1) := by decide +kernel
theorem dX4_take_0 : decode cX4_take 0 = .ok (.aload_n 0, 1) := by decide +kernel
theorem dX4_take_1 : decode cX4_take 1 = .ok (.aload_n 1, 1) := by decide +kernel
theorem dX4_take_2 : decode cX4_take 2 = .ok (.getfield 21, 3) := by decide +kernel
theorem dX4_take_5 : decode cX4_take 5 = .ok (.putfield 21, 3) := by decide +kernel
theorem dX4_take_8 : decode cX4_take 8 = .ok (.aload_n 1, 1) := by decide +kernel
theorem dX4_take_9 : decode cX4_take 9 = .ok (.getfield 9, 3) := by decide +kernel
theorem dX4_take_12 : decode cX4_take 12 = .ok (.iconst 0, 1) := by decide +kernel
theorem dX4_take_13 : decode cX4_take 13 = .ok (.aload_n 0, 1) := by decide +kernel
theorem dX4_take_14 : decode cX4_take 14 = .ok (.getfield 9, 3) := by decide +kernel
theorem dX4_take_17 : decode cX4_take 17 = .ok (.iconst 0, 1) := by decide +kernel
theorem dX4_take_18 : decode cX4_take 18 = .ok (.bipush 10, 2) := by decide +kernel
theorem dX4_take_20 : decode cX4_take 20 = .ok (.invokestatic 25, 3) := by decide +kernel
theorem dX4_take_23 : decode cX4_take 23 = .ok (.aload_n 1, 1) := by decide +kernel
theorem dX4_take_24 : decode cX4_take 24 = .ok (.getfield 15, 3) := by decide +kernel
theorem dX4_take_27 : decode cX4_take 27 = .ok (.iconst 0, 1) := by decide +kernel
theorem dX4_take_28 : decode cX4_take 28 = .ok (.aload_n 0, 1) := by decide +kernel
theorem dX4_take_29 : decode cX4_take 29 = .ok (.getfield 15, 3) := by decide +kernel
theorem dX4_take_32 : decode cX4_take 32 = .ok (.iconst 0, 1) := by decide +kernel
theorem dX4_take_33 : decode cX4_take 33 = .ok (.bipush 10, 2) := by decide +kernel
theorem dX4_take_35 : decode cX4_take 35 = .ok (.invokestatic 25, 3) := by decide +kernel
theorem dX4_take_38 : decode cX4_take 38 = .ok (.aload_n 1, 1) := by decide +kernel
theorem dX4_take_39 : decode cX4_take 39 = .ok (.getfield 18, 3) := by decide +kernel
theorem dX4_take_42 : decode cX4_take 42 = .ok (.iconst 0, 1) := by decide +kernel
theorem dX4_take_43 : decode cX4_take 43 = .ok (.aload_n 0, 1) := by decide +kernel
theorem dX4_take_44 : decode cX4_take 44 = .ok (.getfield 18, 3) := by decide +kernel
theorem dX4_take_47 : decode cX4_take 47 = .ok (.iconst 0, 1) := by decide +kernel
theorem dX4_take_48 : decode cX4_take 48 = .ok (.bipush 10, 2) := by decide +kernel
theorem dX4_take_50 : decode cX4_take 50 = .ok (.invokestatic 25, 3) := by decide +kernel
theorem dX4_take_53 : decode cX4_take 53 = .ok (.return_, 1) := by decide +kernel
theorem dX4_addFact_0 : decode cX4_addFact 0 = .ok (.aload_n 0, 1) := by decide +kernel
theorem dX4_addFact_1 : decode cX4_addFact 1 = .ok (.getfield 21, 3) := by decide +kernel
theorem dX4_addFact_4 : decode cX4_addFact 4 = .ok (.bipush 10, 2) := by decide +kernel
theorem dX4_addFact_6 : decode cX4_addFact 6 = .ok (.if_icmp .ge 43, 3) := by decide +kernel
theorem dX4_addFact_9 : decode cX4_addFact 9 = .ok (.aload_n 0, 1) := by decide +kernel
theorem dX4_addFact_10 : decode cX4_addFact 10 = .ok (.getfield 9, 3) := by decide +kernel
theorem dX4_addFact_13 : decode cX4_addFact 13 = .ok (.aload_n 0, 1) := by decide +kernel
theorem dX4_addFact_14 : decode cX4_addFact 14 = .ok (.getfield 21, 3) := by decide +kernel
theorem dX4_addFact_17 : decode cX4_addFact 17 = .ok (.iload_n 1, 1) := by decide +kernel
theorem dX4_addFact_18 : decode cX4_addFact 18 = .ok (.iastore, 1) := by decide +kernel
theorem dX4_addFact_19 : decode cX4_addFact 19 = .ok (.aload_n 0, 1) := by decide +kernel
theorem dX4_addFact_20 : decode cX4_addFact 20 = .ok (.getfield 15, 3) := by decide +kernel
theorem dX4_addFact_23 : decode cX4_addFact 23 = .ok (.aload_n 0, 1) := by decide +kernel
theorem dX4_addFact_24 : decode cX4_addFact 24 = .ok (.getfield 21, 3) := by decide +kernel
theorem dX4_addFact_27 : decode cX4_addFact 27 = .ok (.iload_n 2, 1) := by decide +kernel
theorem dX4_addFact_28 : decode cX4_addFact 28 = .ok (.iastore, 1) := by decide +kernel
theorem dX4_addFact_29 : decode cX4_addFact 29 = .ok (.aload_n 0, 1) := by decide +kernel
theorem dX4_addFact_30 : decode cX4_addFact 30 = .ok (.getfield 18, 3) := by decide +kernel
theorem dX4_addFact_33 : decode cX4_addFact 33 = .ok (.aload_n 0, 1) := by decide +kernel
theorem dX4_addFact_34 : decode cX4_addFact 34 = .ok (.getfield 21, 3) := by decide +kernel
theorem dX4_addFact_37 : decode cX4_addFact 37 = .ok (.iload_n 3, 1) := by decide +kernel
theorem dX4_addFact_38 : decode cX4_addFact 38 = .ok (.iastore, 1) := by decide +kernel
theorem dX4_addFact_39 : decode cX4_addFact 39 = .ok (.aload_n 0, 1) := by decide +kernel
theorem dX4_addFact_40 : decode cX4_addFact 40 = .ok (.dup, 1) := by decide +kernel
theorem dX4_addFact_41 : decode cX4_addFact 41 = .ok (.getfield 21, 3) := by decide +kernel
theorem dX4_addFact_44 : decode cX4_addFact 44 = .ok (.iconst 1, 1) := by decide +kernel
theorem dX4_addFact_45 : decode cX4_addFact 45 = .ok (.iadd, 1) := by decide +kernel
theorem dX4_addFact_46 : decode cX4_addFact 46 = .ok (.putfield 21, 3) := by decide +kernel
theorem dX4_addFact_49 : decode cX4_addFact 49 = .ok (.return_, 1) := by decide +kernel
theorem dX4_tell_0 : decode cX4_tell 0 = .ok (.iload_n 1, 1) := by decide +kernel
theorem dX4_tell_1 : decode cX4_tell 1 = .ok (.iconst (-1), 1) := by decide +kernel
theorem dX4_tell_2 : decode cX4_tell 2 = .ok (.if_icmp .ne 12, 3) := by decide +kernel
theorem dX4_tell_5 : decode cX4_tell 5 = .ok (.iload_n 2, 1) := by decide +kernel
theorem dX4_tell_6 : decode cX4_tell 6 = .ok (.ifCond .ne 8, 3) := by decide +kernel
theorem dX4_tell_9 : decode cX4_tell 9 = .ok (.aload_n 0, 1) := by decide +kernel
theorem dX4_tell_10 : decode cX4_tell 10 = .ok (.getfield 21, 3) := by decide +kernel
theorem dX4_tell_13 : decode cX4_tell 13 = .ok (.ireturn, 1) := by decide +kernel
theorem dX4_tell_14 : decode cX4_tell 14 = .ok (.iload_n 1, 1) := by decide +kernel
theorem dX4_tell_15 : decode cX4_tell 15 = .ok (.ifCond .lt 11, 3) := by decide +kernel
theorem dX4_tell_18 : decode cX4_tell 18 = .ok (.iload_n 1, 1) := by decide +kernel
theorem dX4_tell_19 : decode cX4_tell 19 = .ok (.aload_n 0, 1) := by decide +kernel
theorem dX4_tell_20 : decode cX4_tell 20 = .ok (.getfield 21, 3) := by decide +kernel
theorem dX4_tell_23 : decode cX4_tell 23 = .ok (.if_icmp .lt 6, 3) := by decide +kernel
theorem dX4_tell_26 : decode cX4_tell 26 = .ok (.bipush (-2), 2) := by decide +kernel
theorem dX4_tell_28 : decode cX4_tell 28 = .ok (.ireturn, 1) := by decide +kernel
theorem dX4_tell_29 : decode cX4_tell 29 = .ok (.iload_n 2, 1) := by decide +kernel
theorem dX4_tell_30 : decode cX4_tell 30 = .ok (.tableswitch 47 0 2 #[26, 33, 40], 26) := by decide +kernel
theorem dX4_tell_56 : decode cX4_tell 56 = .ok (.aload_n 0, 1) := by decide +kernel
theorem dX4_tell_57 : decode cX4_tell 57 = .ok (.getfield 9, 3) := by decide +kernel
theorem dX4_tell_60 : decode cX4_tell 60 = .ok (.iload_n 1, 1) := by decide +kernel
theorem dX4_tell_61 : decode cX4_tell 61 = .ok (.iaload, 1) := by decide +kernel
theorem dX4_tell_62 : decode cX4_tell 62 = .ok (.ireturn, 1) := by decide +kernel
theorem dX4_tell_63 : decode cX4_tell 63 = .ok (.aload_n 0, 1) := by decide +kernel
theorem dX4_tell_64 : decode cX4_tell 64 = .ok (.getfield 15, 3) := by decide +kernel
theorem dX4_tell_67 : decode cX4_tell 67 = .ok (.iload_n 1, 1) := by decide +kernel
theorem dX4_tell_68 : decode cX4_tell 68 = .ok (.iaload, 1) := by decide +kernel
theorem dX4_tell_69 : decode cX4_tell 69 = .ok (.ireturn, 1) := by decide +kernel
theorem dX4_tell_70 : decode cX4_tell 70 = .ok (.aload_n 0, 1) := by decide +kernel
theorem dX4_tell_71 : decode cX4_tell 71 = .ok (.getfield 18, 3) := by decide +kernel
theorem dX4_tell_74 : decode cX4_tell 74 = .ok (.iload_n 1, 1) := by decide +kernel
theorem dX4_tell_75 : decode cX4_tell 75 = .ok (.iaload, 1) := by decide +kernel
theorem dX4_tell_76 : decode cX4_tell 76 = .ok (.ireturn, 1) := by decide +kernel
theorem dX4_tell_77 : decode cX4_tell 77 = .ok (.bipush (-2), 2) := by decide +kernel
theorem dX4_tell_79 : decode cX4_tell 79 = .ok (.ireturn, 1) := by decide +kernel
theorem dX4_highestSeam_0 : decode cX4_highestSeam 0 = .ok (.iconst (-1), 1) := by decide +kernel
theorem dX4_highestSeam_1 : decode cX4_highestSeam 1 = .ok (.istore_n 1, 1) := by decide +kernel
theorem dX4_highestSeam_2 : decode cX4_highestSeam 2 = .ok (.iconst 0, 1) := by decide +kernel
theorem dX4_highestSeam_3 : decode cX4_highestSeam 3 = .ok (.istore_n 2, 1) := by decide +kernel
theorem dX4_highestSeam_4 : decode cX4_highestSeam 4 = .ok (.iload_n 2, 1) := by decide +kernel
theorem dX4_highestSeam_5 : decode cX4_highestSeam 5 = .ok (.aload_n 0, 1) := by decide +kernel
theorem dX4_highestSeam_6 : decode cX4_highestSeam 6 = .ok (.getfield 21, 3) := by decide +kernel
theorem dX4_highestSeam_9 : decode cX4_highestSeam 9 = .ok (.if_icmp .ge 40, 3) := by decide +kernel
theorem dX4_highestSeam_12 : decode cX4_highestSeam 12 = .ok (.iload_n 1, 1) := by decide +kernel
theorem dX4_highestSeam_13 : decode cX4_highestSeam 13 = .ok (.aload_n 0, 1) := by decide +kernel
theorem dX4_highestSeam_14 : decode cX4_highestSeam 14 = .ok (.getfield 15, 3) := by decide +kernel
theorem dX4_highestSeam_17 : decode cX4_highestSeam 17 = .ok (.iload_n 2, 1) := by decide +kernel
theorem dX4_highestSeam_18 : decode cX4_highestSeam 18 = .ok (.iaload, 1) := by decide +kernel
theorem dX4_highestSeam_19 : decode cX4_highestSeam 19 = .ok (.invokestatic 31, 3) := by decide +kernel
theorem dX4_highestSeam_22 : decode cX4_highestSeam 22 = .ok (.istore_n 1, 1) := by decide +kernel
theorem dX4_highestSeam_23 : decode cX4_highestSeam 23 = .ok (.aload_n 0, 1) := by decide +kernel
theorem dX4_highestSeam_24 : decode cX4_highestSeam 24 = .ok (.getfield 9, 3) := by decide +kernel
theorem dX4_highestSeam_27 : decode cX4_highestSeam 27 = .ok (.iload_n 2, 1) := by decide +kernel
theorem dX4_highestSeam_28 : decode cX4_highestSeam 28 = .ok (.iaload, 1) := by decide +kernel
theorem dX4_highestSeam_29 : decode cX4_highestSeam 29 = .ok (.ifCond .ne 14, 3) := by decide +kernel
theorem dX4_highestSeam_32 : decode cX4_highestSeam 32 = .ok (.iload_n 1, 1) := by decide +kernel
theorem dX4_highestSeam_33 : decode cX4_highestSeam 33 = .ok (.aload_n 0, 1) := by decide +kernel
theorem dX4_highestSeam_34 : decode cX4_highestSeam 34 = .ok (.getfield 18, 3) := by decide +kernel
theorem dX4_highestSeam_37 : decode cX4_highestSeam 37 = .ok (.iload_n 2, 1) := by decide +kernel
theorem dX4_highestSeam_38 : decode cX4_highestSeam 38 = .ok (.iaload, 1) := by decide +kernel
theorem dX4_highestSeam_39 : decode cX4_highestSeam 39 = .ok (.invokestatic 31, 3) := by decide +kernel
theorem dX4_highestSeam_42 : decode cX4_highestSeam 42 = .ok (.istore_n 1, 1) := by decide +kernel
theorem dX4_highestSeam_43 : decode cX4_highestSeam 43 = .ok (.iinc 2 1, 3) := by decide +kernel
theorem dX4_highestSeam_46 : decode cX4_highestSeam 46 = .ok (.goto (-42), 3) := by decide +kernel
theorem dX4_highestSeam_49 : decode cX4_highestSeam 49 = .ok (.iload_n 1, 1) := by decide +kernel
theorem dX4_highestSeam_50 : decode cX4_highestSeam 50 = .ok (.ireturn, 1) := by decide +kernel
theorem dX5_init_0 : decode cX5_init 0 = .ok (.aload_n 0, 1) := by decide +kernel
theorem dX5_init_1 : decode cX5_init 1 = .ok (.invokespecial 3, 3) := by decide +kernel
theorem dX5_init_4 : decode cX5_init 4 = .ok (.aload_n 0, 1) := by decide +kernel
theorem dX5_init_5 : decode cX5_init 5 = .ok (.sipush 600, 3) := by decide +kernel
theorem dX5_init_8 : decode cX5_init 8 = .ok (.newarray .byte, 2) := by decide +kernel
theorem dX5_init_10 : decode cX5_init 10 = .ok (.putfield 9, 3) := by decide +kernel
theorem dX5_init_13 : decode cX5_init 13 = .ok (.aload_n 0, 1) := by decide +kernel
theorem dX5_init_14 : decode cX5_init 14 = .ok (.iconst (-1), 1) := by decide +kernel
theorem dX5_init_15 : decode cX5_init 15 = .ok (.putfield 15, 3) := by decide +kernel
theorem dX5_init_18 : decode cX5_init 18 = .ok (.aload_n 0, 1) := by decide +kernel
theorem dX5_init_19 : decode cX5_init 19 = .ok (.iconst 4, 1) := by decide +kernel
theorem dX5_init_20 : decode cX5_init 20 = .ok (.newarray .int, 2) := by decide +kernel
theorem dX5_init_22 : decode cX5_init 22 = .ok (.putfield 19, 3) := by decide +kernel
theorem dX5_init_25 : decode cX5_init 25 = .ok (.aload_n 0, 1) := by decide +kernel
theorem dX5_init_26 : decode cX5_init 26 = .ok (.iconst 2, 1) := by decide +kernel
theorem dX5_init_27 : decode cX5_init 27 = .ok (.anewarray 23, 3) := by decide +kernel
theorem dX5_init_30 : decode cX5_init 30 = .ok (.dup, 1) := by decide +kernel
theorem dX5_init_31 : decode cX5_init 31 = .ok (.iconst 0, 1) := by decide +kernel
theorem dX5_init_32 : decode cX5_init 32 = .ok (.new 23, 3) := by decide +kernel
theorem dX5_init_35 : decode cX5_init 35 = .ok (.dup, 1) := by decide +kernel
theorem dX5_init_36 : decode cX5_init 36 = .ok (.invokespecial 25, 3) := by decide +kernel
theorem dX5_init_39 : decode cX5_init 39 = .ok (.aastore, 1) := by decide +kernel
theorem dX5_init_40 : decode cX5_init 40 = .ok (.dup, 1) := by decide +kernel
theorem dX5_init_41 : decode cX5_init 41 = .ok (.iconst 1, 1) := by decide +kernel
theorem dX5_init_42 : decode cX5_init 42 = .ok (.new 23, 3) := by decide +kernel
theorem dX5_init_45 : decode cX5_init 45 = .ok (.dup, 1) := by decide +kernel
theorem dX5_init_46 : decode cX5_init 46 = .ok (.invokespecial 25, 3) := by decide +kernel
theorem dX5_init_49 : decode cX5_init 49 = .ok (.aastore, 1) := by decide +kernel
theorem dX5_init_50 : decode cX5_init 50 = .ok (.putfield 26, 3) := by decide +kernel
theorem dX5_init_53 : decode cX5_init 53 = .ok (.aload_n 0, 1) := by decide +kernel
theorem dX5_init_54 : decode cX5_init 54 = .ok (.iconst 2, 1) := by decide +kernel
theorem dX5_init_55 : decode cX5_init 55 = .ok (.anewarray 30, 3) := by decide +kernel
theorem dX5_init_58 : decode cX5_init 58 = .ok (.dup, 1) := by decide +kernel
theorem dX5_init_59 : decode cX5_init 59 = .ok (.iconst 0, 1) := by decide +kernel
theorem dX5_init_60 : decode cX5_init 60 = .ok (.new 30, 3) := by decide +kernel
theorem dX5_init_63 : decode cX5_init 63 = .ok (.dup, 1) := by decide +kernel
theorem dX5_init_64 : decode cX5_init 64 = .ok (.invokespecial 32, 3) := by decide +kernel
theorem dX5_init_67 : decode cX5_init 67 = .ok (.aastore, 1) := by decide +kernel
theorem dX5_init_68 : decode cX5_init 68 = .ok (.dup, 1) := by decide +kernel
theorem dX5_init_69 : decode cX5_init 69 = .ok (.iconst 1, 1) := by decide +kernel
theorem dX5_init_70 : decode cX5_init 70 = .ok (.new 30, 3) := by decide +kernel
theorem dX5_init_73 : decode cX5_init 73 = .ok (.dup, 1) := by decide +kernel
theorem dX5_init_74 : decode cX5_init 74 = .ok (.invokespecial 32, 3) := by decide +kernel
theorem dX5_init_77 : decode cX5_init 77 = .ok (.aastore, 1) := by decide +kernel
theorem dX5_init_78 : decode cX5_init 78 = .ok (.putfield 33, 3) := by decide +kernel
theorem dX5_init_81 : decode cX5_init 81 = .ok (.aload_n 0, 1) := by decide +kernel
theorem dX5_init_82 : decode cX5_init 82 = .ok (.iconst 2, 1) := by decide +kernel
theorem dX5_init_83 : decode cX5_init 83 = .ok (.anewarray 37, 3) := by decide +kernel
theorem dX5_init_86 : decode cX5_init 86 = .ok (.dup, 1) := by decide +kernel
theorem dX5_init_87 : decode cX5_init 87 = .ok (.iconst 0, 1) := by decide +kernel
theorem dX5_init_88 : decode cX5_init 88 = .ok (.new 37, 3) := by decide +kernel
theorem dX5_init_91 : decode cX5_init 91 = .ok (.dup, 1) := by decide +kernel
theorem dX5_init_92 : decode cX5_init 92 = .ok (.invokespecial 39, 3) := by decide +kernel
theorem dX5_init_95 : decode cX5_init 95 = .ok (.aastore, 1) := by decide +kernel
theorem dX5_init_96 : decode cX5_init 96 = .ok (.dup, 1) := by decide +kernel
theorem dX5_init_97 : decode cX5_init 97 = .ok (.iconst 1, 1) := by decide +kernel
theorem dX5_init_98 : decode cX5_init 98 = .ok (.new 37, 3) := by decide +kernel
theorem dX5_init_101 : decode cX5_init 101 = .ok (.dup, 1) := by decide +kernel
theorem dX5_init_102 : decode cX5_init 102 = .ok (.invokespecial 39, 3) := by decide +kernel
theorem dX5_init_105 : decode cX5_init 105 = .ok (.aastore, 1) := by decide +kernel
theorem dX5_init_106 : decode cX5_init 106 = .ok (.putfield 40, 3) := by decide +kernel
theorem dX5_init_109 : decode cX5_init 109 = .ok (.aload_n 0, 1) := by decide +kernel
theorem dX5_init_110 : decode cX5_init 110 = .ok (.iconst 2, 1) := by decide +kernel
theorem dX5_init_111 : decode cX5_init 111 = .ok (.anewarray 44, 3) := by decide +kernel
theorem dX5_init_114 : decode cX5_init 114 = .ok (.dup, 1) := by decide +kernel
theorem dX5_init_115 : decode cX5_init 115 = .ok (.iconst 0, 1) := by decide +kernel
theorem dX5_init_116 : decode cX5_init 116 = .ok (.new 44, 3) := by decide +kernel
theorem dX5_init_119 : decode cX5_init 119 = .ok (.dup, 1) := by decide +kernel
theorem dX5_init_120 : decode cX5_init 120 = .ok (.invokespecial 46, 3) := by decide +kernel
theorem dX5_init_123 : decode cX5_init 123 = .ok (.aastore, 1) := by decide +kernel
theorem dX5_init_124 : decode cX5_init 124 = .ok (.dup, 1) := by decide +kernel
theorem dX5_init_125 : decode cX5_init 125 = .ok (.iconst 1, 1) := by decide +kernel
theorem dX5_init_126 : decode cX5_init 126 = .ok (.new 44, 3) := by decide +kernel
theorem dX5_init_129 : decode cX5_init 129 = .ok (.dup, 1) := by decide +kernel
theorem dX5_init_130 : decode cX5_init 130 = .ok (.invokespecial 46, 3) := by decide +kernel
theorem dX5_init_133 : decode cX5_init 133 = .ok (.aastore, 1) := by decide +kernel
theorem dX5_init_134 : decode cX5_init 134 = .ok (.putfield 47, 3) := by decide +kernel
theorem dX5_init_137 : decode cX5_init 137 = .ok (.return_, 1) := by decide +kernel
theorem dX5_put_0 : decode cX5_put 0 = .ok (.bipush 24, 2) := by decide +kernel
theorem dX5_put_2 : decode cX5_put 2 = .ok (.istore_n 2, 1) := by decide +kernel
theorem dX5_put_3 : decode cX5_put 3 = .ok (.iload_n 2, 1) := by decide +kernel
theorem dX5_put_4 : decode cX5_put 4 = .ok (.ifCond .lt 42, 3) := by decide +kernel
theorem dX5_put_7 : decode cX5_put 7 = .ok (.aload_n 0, 1) := by decide +kernel
theorem dX5_put_8 : decode cX5_put 8 = .ok (.getfield 51, 3) := by decide +kernel
theorem dX5_put_11 : decode cX5_put 11 = .ok (.sipush 600, 3) := by decide +kernel
theorem dX5_put_14 : decode cX5_put 14 = .ok (.if_icmp .ge 32, 3) := by decide +kernel
theorem dX5_put_17 : decode cX5_put 17 = .ok (.aload_n 0, 1) := by decide +kernel
theorem dX5_put_18 : decode cX5_put 18 = .ok (.getfield 9, 3) := by decide +kernel
theorem dX5_put_21 : decode cX5_put 21 = .ok (.aload_n 0, 1) := by decide +kernel
theorem dX5_put_22 : decode cX5_put 22 = .ok (.getfield 51, 3) := by decide +kernel
theorem dX5_put_25 : decode cX5_put 25 = .ok (.iload_n 1, 1) := by decide +kernel
theorem dX5_put_26 : decode cX5_put 26 = .ok (.iload_n 2, 1) := by decide +kernel
theorem dX5_put_27 : decode cX5_put 27 = .ok (.ishr, 1) := by decide +kernel
theorem dX5_put_28 : decode cX5_put 28 = .ok (.i2b, 1) := by decide +kernel
theorem dX5_put_29 : decode cX5_put 29 = .ok (.bastore, 1) := by decide +kernel
theorem dX5_put_30 : decode cX5_put 30 = .ok (.aload_n 0, 1) := by decide +kernel
theorem dX5_put_31 : decode cX5_put 31 = .ok (.dup, 1) := by decide +kernel
theorem dX5_put_32 : decode cX5_put 32 = .ok (.getfield 51, 3) := by decide +kernel
theorem dX5_put_35 : decode cX5_put 35 = .ok (.iconst 1, 1) := by decide +kernel
theorem dX5_put_36 : decode cX5_put 36 = .ok (.iadd, 1) := by decide +kernel
theorem dX5_put_37 : decode cX5_put 37 = .ok (.putfield 51, 3) := by decide +kernel
theorem dX5_put_40 : decode cX5_put 40 = .ok (.iinc 2 (-8), 3) := by decide +kernel
theorem dX5_put_43 : decode cX5_put 43 = .ok (.goto (-40), 3) := by decide +kernel
theorem dX5_put_46 : decode cX5_put 46 = .ok (.return_, 1) := by decide +kernel
theorem dX5_close_0 : decode cX5_close 0 = .ok (.aload_n 0, 1) := by decide +kernel
theorem dX5_close_1 : decode cX5_close 1 = .ok (.iconst 0, 1) := by decide +kernel
theorem dX5_close_2 : decode cX5_close 2 = .ok (.putfield 51, 3) := by decide +kernel
theorem dX5_close_5 : decode cX5_close 5 = .ok (.aload_n 0, 1) := by decide +kernel
theorem dX5_close_6 : decode cX5_close 6 = .ok (.iload_n 1, 1) := by decide +kernel
theorem dX5_close_7 : decode cX5_close 7 = .ok (.putfield 54, 3) := by decide +kernel
theorem dX5_close_10 : decode cX5_close 10 = .ok (.aload_n 0, 1) := by decide +kernel
theorem dX5_close_11 : decode cX5_close 11 = .ok (.iload_n 2, 1) := by decide +kernel
theorem dX5_close_12 : decode cX5_close 12 = .ok (.putfield 15, 3) := by decide +kernel
theorem dX5_close_15 : decode cX5_close 15 = .ok (.return_, 1) := by decide +kernel
theorem dX5_has_0 : decode cX5_has 0 = .ok (.iload_n 1, 1) := by decide +kernel
theorem dX5_has_1 : decode cX5_has 1 = .ok (.ifCond .lt 31, 3) := by decide +kernel
theorem dX5_has_4 : decode cX5_has 4 = .ok (.iload_n 1, 1) := by decide +kernel
theorem dX5_has_5 : decode cX5_has 5 = .ok (.iconst 4, 1) := by decide +kernel
theorem dX5_has_6 : decode cX5_has 6 = .ok (.if_icmp .ge 26, 3) := by decide +kernel
theorem dX5_has_9 : decode cX5_has 9 = .ok (.iload_n 2, 1) := by decide +kernel
theorem dX5_has_10 : decode cX5_has 10 = .ok (.ifCond .lt 22, 3) := by decide +kernel
theorem dX5_has_13 : decode cX5_has 13 = .ok (.iload_n 2, 1) := by decide +kernel
theorem dX5_has_14 : decode cX5_has 14 = .ok (.aload_n 0, 1) := by decide +kernel
theorem dX5_has_15 : decode cX5_has 15 = .ok (.getfield 19, 3) := by decide +kernel
theorem dX5_has_18 : decode cX5_has 18 = .ok (.iload_n 1, 1) := by decide +kernel
theorem dX5_has_19 : decode cX5_has 19 = .ok (.iaload, 1) := by decide +kernel
theorem dX5_has_20 : decode cX5_has 20 = .ok (.if_icmp .ge 12, 3) := by decide +kernel
theorem dX5_has_23 : decode cX5_has 23 = .ok (.iload_n 2, 1) := by decide +kernel
theorem dX5_has_24 : decode cX5_has 24 = .ok (.iconst 2, 1) := by decide +kernel
theorem dX5_has_25 : decode cX5_has 25 = .ok (.if_icmp .ge 7, 3) := by decide +kernel
theorem dX5_has_28 : decode cX5_has 28 = .ok (.iconst 1, 1) := by decide +kernel
theorem dX5_has_29 : decode cX5_has 29 = .ok (.goto 4, 3) := by decide +kernel
theorem dX5_has_32 : decode cX5_has 32 = .ok (.iconst 0, 1) := by decide +kernel
theorem dX5_has_33 : decode cX5_has 33 = .ok (.ireturn, 1) := by decide +kernel
theorem dX5_keep_0 : decode cX5_keep 0 = .ok (.iload_n 1, 1) := by decide +kernel
theorem dX5_keep_1 : decode cX5_keep 1 = .ok (.ifCond .lt 17, 3) := by decide +kernel
theorem dX5_keep_4 : decode cX5_keep 4 = .ok (.iload_n 1, 1) := by decide +kernel
theorem dX5_keep_5 : decode cX5_keep 5 = .ok (.iconst 4, 1) := by decide +kernel
theorem dX5_keep_6 : decode cX5_keep 6 = .ok (.if_icmp .ge 12, 3) := by decide +kernel
theorem dX5_keep_9 : decode cX5_keep 9 = .ok (.iload_n 2, 1) := by decide +kernel
theorem dX5_keep_10 : decode cX5_keep 10 = .ok (.ifCond .lt 8, 3) := by decide +kernel
theorem dX5_keep_13 : decode cX5_keep 13 = .ok (.iload_n 2, 1) := by decide +kernel
theorem dX5_keep_14 : decode cX5_keep 14 = .ok (.iconst 2, 1) := by decide +kernel
theorem dX5_keep_15 : decode cX5_keep 15 = .ok (.if_icmp .lt 4, 3) := by decide +kernel
theorem dX5_keep_18 : decode cX5_keep 18 = .ok (.return_, 1) := by decide +kernel
theorem dX5_keep_19 : decode cX5_keep 19 = .ok (.iload_n 1, 1) := by decide +kernel
theorem dX5_keep_20 : decode cX5_keep 20 = .ok (.tableswitch 76 0 2 #[28, 44, 60], 28) := by decide +kernel
theorem dX5_keep_48 : decode cX5_keep 48 = .ok (.aload_n 0, 1) := by decide +kernel
theorem dX5_keep_49 : decode cX5_keep 49 = .ok (.getfield 26, 3) := by decide +kernel
theorem dX5_keep_52 : decode cX5_keep 52 = .ok (.iload_n 2, 1) := by decide +kernel
theorem dX5_keep_53 : decode cX5_keep 53 = .ok (.aaload, 1) := by decide +kernel
theorem dX5_keep_54 : decode cX5_keep 54 = .ok (.aload_n 3, 1) := by decide +kernel
theorem dX5_keep_55 : decode cX5_keep 55 = .ok (.getfield 57, 3) := by decide +kernel
theorem dX5_keep_58 : decode cX5_keep 58 = .ok (.invokevirtual 63, 3) := by decide +kernel
theorem dX5_keep_61 : decode cX5_keep 61 = .ok (.goto 48, 3) := by decide +kernel
theorem dX5_keep_64 : decode cX5_keep 64 = .ok (.aload_n 0, 1) := by decide +kernel
theorem dX5_keep_65 : decode cX5_keep 65 = .ok (.getfield 33, 3) := by decide +kernel
theorem dX5_keep_68 : decode cX5_keep 68 = .ok (.iload_n 2, 1) := by decide +kernel
theorem dX5_keep_69 : decode cX5_keep 69 = .ok (.aaload, 1) := by decide +kernel
theorem dX5_keep_70 : decode cX5_keep 70 = .ok (.aload_n 3, 1) := by decide +kernel
theorem dX5_keep_71 : decode cX5_keep 71 = .ok (.getfield 67, 3) := by decide +kernel
theorem dX5_keep_74 : decode cX5_keep 74 = .ok (.invokevirtual 71, 3) := by decide +kernel
theorem dX5_keep_77 : decode cX5_keep 77 = .ok (.goto 32, 3) := by decide +kernel
theorem dX5_keep_80 : decode cX5_keep 80 = .ok (.aload_n 0, 1) := by decide +kernel
theorem dX5_keep_81 : decode cX5_keep 81 = .ok (.getfield 40, 3) := by decide +kernel
theorem dX5_keep_84 : decode cX5_keep 84 = .ok (.iload_n 2, 1) := by decide +kernel
theorem dX5_keep_85 : decode cX5_keep 85 = .ok (.aaload, 1) := by decide +kernel
theorem dX5_keep_86 : decode cX5_keep 86 = .ok (.aload_n 3, 1) := by decide +kernel
theorem dX5_keep_87 : decode cX5_keep 87 = .ok (.getfield 74, 3) := by decide +kernel
theorem dX5_keep_90 : decode cX5_keep 90 = .ok (.invokevirtual 78, 3) := by decide +kernel
theorem dX5_keep_93 : decode cX5_keep 93 = .ok (.goto 16, 3) := by decide +kernel
theorem dX5_keep_96 : decode cX5_keep 96 = .ok (.aload_n 0, 1) := by decide +kernel
theorem dX5_keep_97 : decode cX5_keep 97 = .ok (.getfield 47, 3) := by decide +kernel
theorem dX5_keep_100 : decode cX5_keep 100 = .ok (.iload_n 2, 1) := by decide +kernel
theorem dX5_keep_101 : decode cX5_keep 101 = .ok (.aaload, 1) := by decide +kernel
theorem dX5_keep_102 : decode cX5_keep 102 = .ok (.aload_n 3, 1) := by decide +kernel
theorem dX5_keep_103 : decode cX5_keep 103 = .ok (.getfield 81, 3) := by decide +kernel
theorem dX5_keep_106 : decode cX5_keep 106 = .ok (.invokevirtual 85, 3) := by decide +kernel
theorem dX5_keep_109 : decode cX5_keep 109 = .ok (.aload_n 0, 1) := by decide +kernel
theorem dX5_keep_110 : decode cX5_keep 110 = .ok (.getfield 19, 3) := by decide +kernel
theorem dX5_keep_113 : decode cX5_keep 113 = .ok (.iload_n 1, 1) := by decide +kernel
theorem dX5_keep_114 : decode cX5_keep 114 = .ok (.aload_n 0, 1) := by decide +kernel
theorem dX5_keep_115 : decode cX5_keep 115 = .ok (.getfield 19, 3) := by decide +kernel
theorem dX5_keep_118 : decode cX5_keep 118 = .ok (.iload_n 1, 1) := by decide +kernel
theorem dX5_keep_119 : decode cX5_keep 119 = .ok (.iaload, 1) := by decide +kernel
theorem dX5_keep_120 : decode cX5_keep 120 = .ok (.iload_n 2, 1) := by decide +kernel
theorem dX5_keep_121 : decode cX5_keep 121 = .ok (.iconst 1, 1) := by decide +kernel
theorem dX5_keep_122 : decode cX5_keep 122 = .ok (.iadd, 1) := by decide +kernel
theorem dX5_keep_123 : decode cX5_keep 123 = .ok (.invokestatic 88, 3) := by decide +kernel
theorem dX5_keep_126 : decode cX5_keep 126 = .ok (.iastore, 1) := by decide +kernel
theorem dX5_keep_127 : decode cX5_keep 127 = .ok (.return_, 1) := by decide +kernel
theorem dX5_take_0 : decode cX5_take 0 = .ok (.aload_n 1, 1) := by decide +kernel
theorem dX5_take_1 : decode cX5_take 1 = .ok (.getfield 9, 3) := by decide +kernel
theorem dX5_take_4 : decode cX5_take 4 = .ok (.iconst 0, 1) := by decide +kernel
theorem dX5_take_5 : decode cX5_take 5 = .ok (.aload_n 0, 1) := by decide +kernel
theorem dX5_take_6 : decode cX5_take 6 = .ok (.getfield 9, 3) := by decide +kernel
theorem dX5_take_9 : decode cX5_take 9 = .ok (.iconst 0, 1) := by decide +kernel
theorem dX5_take_10 : decode cX5_take 10 = .ok (.sipush 600, 3) := by decide +kernel
theorem dX5_take_13 : decode cX5_take 13 = .ok (.invokestatic 94, 3) := by decide +kernel
theorem dX5_take_16 : decode cX5_take 16 = .ok (.aload_n 0, 1) := by decide +kernel
theorem dX5_take_17 : decode cX5_take 17 = .ok (.aload_n 1, 1) := by decide +kernel
theorem dX5_take_18 : decode cX5_take 18 = .ok (.getfield 51, 3) := by decide +kernel
theorem dX5_take_21 : decode cX5_take 21 = .ok (.putfield 51, 3) := by decide +kernel
theorem dX5_take_24 : decode cX5_take 24 = .ok (.aload_n 0, 1) := by decide +kernel
theorem dX5_take_25 : decode cX5_take 25 = .ok (.aload_n 1, 1) := by decide +kernel
theorem dX5_take_26 : decode cX5_take 26 = .ok (.getfield 54, 3) := by decide +kernel
theorem dX5_take_29 : decode cX5_take 29 = .ok (.putfield 54, 3) := by decide +kernel
theorem dX5_take_32 : decode cX5_take 32 = .ok (.aload_n 0, 1) := by decide +kernel
theorem dX5_take_33 : decode cX5_take 33 = .ok (.aload_n 1, 1) := by decide +kernel
theorem dX5_take_34 : decode cX5_take 34 = .ok (.getfield 15, 3) := by decide +kernel
theorem dX5_take_37 : decode cX5_take 37 = .ok (.putfield 15, 3) := by decide +kernel
theorem dX5_take_40 : decode cX5_take 40 = .ok (.aload_n 1, 1) := by decide +kernel
theorem dX5_take_41 : decode cX5_take 41 = .ok (.getfield 19, 3) := by decide +kernel
theorem dX5_take_44 : decode cX5_take 44 = .ok (.iconst 0, 1) := by decide +kernel
theorem dX5_take_45 : decode cX5_take 45 = .ok (.aload_n 0, 1) := by decide +kernel
theorem dX5_take_46 : decode cX5_take 46 = .ok (.getfield 19, 3) := by decide +kernel
theorem dX5_take_49 : decode cX5_take 49 = .ok (.iconst 0, 1) := by decide +kernel
theorem dX5_take_50 : decode cX5_take 50 = .ok (.iconst 4, 1) := by decide +kernel
theorem dX5_take_51 : decode cX5_take 51 = .ok (.invokestatic 94, 3) := by decide +kernel
theorem dX5_take_54 : decode cX5_take 54 = .ok (.iconst 0, 1) := by decide +kernel
theorem dX5_take_55 : decode cX5_take 55 = .ok (.istore_n 2, 1) := by decide +kernel
theorem dX5_take_56 : decode cX5_take 56 = .ok (.iload_n 2, 1) := by decide +kernel
theorem dX5_take_57 : decode cX5_take 57 = .ok (.iconst 2, 1) := by decide +kernel
theorem dX5_take_58 : decode cX5_take 58 = .ok (.if_icmp .ge 69, 3) := by decide +kernel
theorem dX5_take_61 : decode cX5_take 61 = .ok (.aload_n 0, 1) := by decide +kernel
theorem dX5_take_62 : decode cX5_take 62 = .ok (.getfield 26, 3) := by decide +kernel
theorem dX5_take_65 : decode cX5_take 65 = .ok (.iload_n 2, 1) := by decide +kernel
theorem dX5_take_66 : decode cX5_take 66 = .ok (.aaload, 1) := by decide +kernel
theorem dX5_take_67 : decode cX5_take 67 = .ok (.aload_n 1, 1) := by decide +kernel
theorem dX5_take_68 : decode cX5_take 68 = .ok (.getfield 26, 3) := by decide +kernel
theorem dX5_take_71 : decode cX5_take 71 = .ok (.iload_n 2, 1) := by decide +kernel
theorem dX5_take_72 : decode cX5_take 72 = .ok (.aaload, 1) := by decide +kernel
theorem dX5_take_73 : decode cX5_take 73 = .ok (.invokevirtual 63, 3) := by decide +kernel
theorem dX5_take_76 : decode cX5_take 76 = .ok (.aload_n 0, 1) := by decide +kernel
theorem dX5_take_77 : decode cX5_take 77 = .ok (.getfield 33, 3) := by decide +kernel
theorem dX5_take_80 : decode cX5_take 80 = .ok (.iload_n 2, 1) := by decide +kernel
theorem dX5_take_81 : decode cX5_take 81 = .ok (.aaload, 1) := by decide +kernel
theorem dX5_take_82 : decode cX5_take 82 = .ok (.aload_n 1, 1) := by decide +kernel
theorem dX5_take_83 : decode cX5_take 83 = .ok (.getfield 33, 3) := by decide +kernel
theorem dX5_take_86 : decode cX5_take 86 = .ok (.iload_n 2, 1) := by decide +kernel
theorem dX5_take_87 : decode cX5_take 87 = .ok (.aaload, 1) := by decide +kernel
theorem dX5_take_88 : decode cX5_take 88 = .ok (.invokevirtual 71, 3) := by decide +kernel
theorem dX5_take_91 : decode cX5_take 91 = .ok (.aload_n 0, 1) := by decide +kernel
theorem dX5_take_92 : decode cX5_take 92 = .ok (.getfield 40, 3) := by decide +kernel
theorem dX5_take_95 : decode cX5_take 95 = .ok (.iload_n 2, 1) := by decide +kernel
theorem dX5_take_96 : decode cX5_take 96 = .ok (.aaload, 1) := by decide +kernel
theorem dX5_take_97 : decode cX5_take 97 = .ok (.aload_n 1, 1) := by decide +kernel
theorem dX5_take_98 : decode cX5_take 98 = .ok (.getfield 40, 3) := by decide +kernel
theorem dX5_take_101 : decode cX5_take 101 = .ok (.iload_n 2, 1) := by decide +kernel
theorem dX5_take_102 : decode cX5_take 102 = .ok (.aaload, 1) := by decide +kernel
theorem dX5_take_103 : decode cX5_take 103 = .ok (.invokevirtual 78, 3) := by decide +kernel
theorem dX5_take_106 : decode cX5_take 106 = .ok (.aload_n 0, 1) := by decide +kernel
theorem dX5_take_107 : decode cX5_take 107 = .ok (.getfield 47, 3) := by decide +kernel
theorem dX5_take_110 : decode cX5_take 110 = .ok (.iload_n 2, 1) := by decide +kernel
theorem dX5_take_111 : decode cX5_take 111 = .ok (.aaload, 1) := by decide +kernel
theorem dX5_take_112 : decode cX5_take 112 = .ok (.aload_n 1, 1) := by decide +kernel
theorem dX5_take_113 : decode cX5_take 113 = .ok (.getfield 47, 3) := by decide +kernel
theorem dX5_take_116 : decode cX5_take 116 = .ok (.iload_n 2, 1) := by decide +kernel
theorem dX5_take_117 : decode cX5_take 117 = .ok (.aaload, 1) := by decide +kernel
theorem dX5_take_118 : decode cX5_take 118 = .ok (.invokevirtual 85, 3) := by decide +kernel
theorem dX5_take_121 : decode cX5_take 121 = .ok (.iinc 2 1, 3) := by decide +kernel
theorem dX5_take_124 : decode cX5_take 124 = .ok (.goto (-68), 3) := by decide +kernel
theorem dX5_take_127 : decode cX5_take 127 = .ok (.return_, 1) := by decide +kernel
theorem dX6_init_0 : decode cX6_init 0 = .ok (.aload_n 0, 1) := by decide +kernel
theorem dX6_init_1 : decode cX6_init 1 = .ok (.invokespecial 3, 3) := by decide +kernel
theorem dX6_init_4 : decode cX6_init 4 = .ok (.aload_n 0, 1) := by decide +kernel
theorem dX6_init_5 : decode cX6_init 5 = .ok (.iconst 3, 1) := by decide +kernel
theorem dX6_init_6 : decode cX6_init 6 = .ok (.putfield 9, 3) := by decide +kernel
theorem dX6_init_9 : decode cX6_init 9 = .ok (.aload_n 0, 1) := by decide +kernel
theorem dX6_init_10 : decode cX6_init 10 = .ok (.iconst 2, 1) := by decide +kernel
theorem dX6_init_11 : decode cX6_init 11 = .ok (.putfield 15, 3) := by decide +kernel
theorem dX6_init_14 : decode cX6_init 14 = .ok (.aload_n 0, 1) := by decide +kernel
theorem dX6_init_15 : decode cX6_init 15 = .ok (.bipush 6, 2) := by decide +kernel
theorem dX6_init_17 : decode cX6_init 17 = .ok (.newarray .int, 2) := by decide +kernel
theorem dX6_init_19 : decode cX6_init 19 = .ok (.putfield 18, 3) := by decide +kernel
theorem dX6_init_22 : decode cX6_init 22 = .ok (.aload_n 0, 1) := by decide +kernel
theorem dX6_init_23 : decode cX6_init 23 = .ok (.bipush 6, 2) := by decide +kernel
theorem dX6_init_25 : decode cX6_init 25 = .ok (.newarray .int, 2) := by decide +kernel
theorem dX6_init_27 : decode cX6_init 27 = .ok (.putfield 22, 3) := by decide +kernel
theorem dX6_init_30 : decode cX6_init 30 = .ok (.aload_n 0, 1) := by decide +kernel
theorem dX6_init_31 : decode cX6_init 31 = .ok (.bipush 6, 2) := by decide +kernel
theorem dX6_init_33 : decode cX6_init 33 = .ok (.newarray .int, 2) := by decide +kernel
theorem dX6_init_35 : decode cX6_init 35 = .ok (.putfield 25, 3) := by decide +kernel
theorem dX6_init_38 : decode cX6_init 38 = .ok (.aload_n 0, 1) := by decide +kernel
theorem dX6_init_39 : decode cX6_init 39 = .ok (.bipush 6, 2) := by decide +kernel
theorem dX6_init_41 : decode cX6_init 41 = .ok (.newarray .int, 2) := by decide +kernel
theorem dX6_init_43 : decode cX6_init 43 = .ok (.putfield 28, 3) := by decide +kernel
theorem dX6_init_46 : decode cX6_init 46 = .ok (.aload_n 0, 1) := by decide +kernel
theorem dX6_init_47 : decode cX6_init 47 = .ok (.bipush 6, 2) := by decide +kernel
theorem dX6_init_49 : decode cX6_init 49 = .ok (.newarray .int, 2) := by decide +kernel
theorem dX6_init_51 : decode cX6_init 51 = .ok (.putfield 31, 3) := by decide +kernel
theorem dX6_init_54 : decode cX6_init 54 = .ok (.aload_n 0, 1) := by decide +kernel
theorem dX6_init_55 : decode cX6_init 55 = .ok (.bipush 6, 2) := by decide +kernel
theorem dX6_init_57 : decode cX6_init 57 = .ok (.newarray .int, 2) := by decide +kernel
theorem dX6_init_59 : decode cX6_init 59 = .ok (.putfield 34, 3) := by decide +kernel
theorem dX6_init_62 : decode cX6_init 62 = .ok (.return_, 1) := by decide +kernel
theorem dX6_clear_0 : decode cX6_clear 0 = .ok (.aload_n 0, 1) := by decide +kernel
theorem dX6_clear_1 : decode cX6_clear 1 = .ok (.iconst 0, 1) := by decide +kernel
theorem dX6_clear_2 : decode cX6_clear 2 = .ok (.putfield 37, 3) := by decide +kernel
theorem dX6_clear_5 : decode cX6_clear 5 = .ok (.aload_n 0, 1) := by decide +kernel
theorem dX6_clear_6 : decode cX6_clear 6 = .ok (.iconst 0, 1) := by decide +kernel
theorem dX6_clear_7 : decode cX6_clear 7 = .ok (.putfield 40, 3) := by decide +kernel
theorem dX6_clear_10 : decode cX6_clear 10 = .ok (.aload_n 0, 1) := by decide +kernel
theorem dX6_clear_11 : decode cX6_clear 11 = .ok (.iconst 3, 1) := by decide +kernel
theorem dX6_clear_12 : decode cX6_clear 12 = .ok (.putfield 9, 3) := by decide +kernel
theorem dX6_clear_15 : decode cX6_clear 15 = .ok (.aload_n 0, 1) := by decide +kernel
theorem dX6_clear_16 : decode cX6_clear 16 = .ok (.iconst 2, 1) := by decide +kernel
theorem dX6_clear_17 : decode cX6_clear 17 = .ok (.putfield 15, 3) := by decide +kernel
theorem dX6_clear_20 : decode cX6_clear 20 = .ok (.aload_n 0, 1) := by decide +kernel
theorem dX6_clear_21 : decode cX6_clear 21 = .ok (.iconst 0, 1) := by decide +kernel
theorem dX6_clear_22 : decode cX6_clear 22 = .ok (.putfield 43, 3) := by decide +kernel
theorem dX6_clear_25 : decode cX6_clear 25 = .ok (.aload_n 0, 1) := by decide +kernel
theorem dX6_clear_26 : decode cX6_clear 26 = .ok (.getfield 31, 3) := by decide +kernel
theorem dX6_clear_29 : decode cX6_clear 29 = .ok (.iconst (-1), 1) := by decide +kernel
theorem dX6_clear_30 : decode cX6_clear 30 = .ok (.invokestatic 46, 3) := by decide +kernel
theorem dX6_clear_33 : decode cX6_clear 33 = .ok (.aload_n 0, 1) := by decide +kernel
theorem dX6_clear_34 : decode cX6_clear 34 = .ok (.getfield 34, 3) := by decide +kernel
theorem dX6_clear_37 : decode cX6_clear 37 = .ok (.iconst (-1), 1) := by decide +kernel
theorem dX6_clear_38 : decode cX6_clear 38 = .ok (.invokestatic 46, 3) := by decide +kernel
theorem dX6_clear_41 : decode cX6_clear 41 = .ok (.return_, 1) := by decide +kernel
theorem dX6_take_0 : decode cX6_take 0 = .ok (.aload_n 0, 1) := by decide +kernel
theorem dX6_take_1 : decode cX6_take 1 = .ok (.aload_n 1, 1) := by decide +kernel
theorem dX6_take_2 : decode cX6_take 2 = .ok (.getfield 37, 3) := by decide +kernel
theorem dX6_take_5 : decode cX6_take 5 = .ok (.putfield 37, 3) := by decide +kernel
theorem dX6_take_8 : decode cX6_take 8 = .ok (.aload_n 0, 1) := by decide +kernel
theorem dX6_take_9 : decode cX6_take 9 = .ok (.aload_n 1, 1) := by decide +kernel
theorem dX6_take_10 : decode cX6_take 10 = .ok (.getfield 40, 3) := by decide +kernel
theorem dX6_take_13 : decode cX6_take 13 = .ok (.putfield 40, 3) := by decide +kernel
theorem dX6_take_16 : decode cX6_take 16 = .ok (.aload_n 0, 1) := by decide +kernel
theorem dX6_take_17 : decode cX6_take 17 = .ok (.aload_n 1, 1) := by decide +kernel
theorem dX6_take_18 : decode cX6_take 18 = .ok (.getfield 9, 3) := by decide +kernel
theorem dX6_take_21 : decode cX6_take 21 = .ok (.putfield 9, 3) := by decide +kernel
theorem dX6_take_24 : decode cX6_take 24 = .ok (.aload_n 0, 1) := by decide +kernel
theorem dX6_take_25 : decode cX6_take 25 = .ok (.aload_n 1, 1) := by decide +kernel
theorem dX6_take_26 : decode cX6_take 26 = .ok (.getfield 15, 3) := by decide +kernel
theorem dX6_take_29 : decode cX6_take 29 = .ok (.putfield 15, 3) := by decide +kernel
theorem dX6_take_32 : decode cX6_take 32 = .ok (.aload_n 0, 1) := by decide +kernel
theorem dX6_take_33 : decode cX6_take 33 = .ok (.aload_n 1, 1) := by decide +kernel
theorem dX6_take_34 : decode cX6_take 34 = .ok (.getfield 43, 3) := by decide +kernel
theorem dX6_take_37 : decode cX6_take 37 = .ok (.putfield 43, 3) := by decide +kernel
theorem dX6_take_40 : decode cX6_take 40 = .ok (.aload_n 1, 1) := by decide +kernel
theorem dX6_take_41 : decode cX6_take 41 = .ok (.getfield 18, 3) := by decide +kernel
theorem dX6_take_44 : decode cX6_take 44 = .ok (.iconst 0, 1) := by decide +kernel
theorem dX6_take_45 : decode cX6_take 45 = .ok (.aload_n 0, 1) := by decide +kernel
theorem dX6_take_46 : decode cX6_take 46 = .ok (.getfield 18, 3) := by decide +kernel
theorem dX6_take_49 : decode cX6_take 49 = .ok (.iconst 0, 1) := by decide +kernel
theorem dX6_take_50 : decode cX6_take 50 = .ok (.bipush 6, 2) := by decide +kernel
theorem dX6_take_52 : decode cX6_take 52 = .ok (.invokestatic 52, 3) := by decide +kernel
theorem dX6_take_55 : decode cX6_take 55 = .ok (.aload_n 1, 1) := by decide +kernel
theorem dX6_take_56 : decode cX6_take 56 = .ok (.getfield 22, 3) := by decide +kernel
theorem dX6_take_59 : decode cX6_take 59 = .ok (.iconst 0, 1) := by decide +kernel
theorem dX6_take_60 : decode cX6_take 60 = .ok (.aload_n 0, 1) := by decide +kernel
theorem dX6_take_61 : decode cX6_take 61 = .ok (.getfield 22, 3) := by decide +kernel
theorem dX6_take_64 : decode cX6_take 64 = .ok (.iconst 0, 1) := by decide +kernel
theorem dX6_take_65 : decode cX6_take 65 = .ok (.bipush 6, 2) := by decide +kernel
theorem dX6_take_67 : decode cX6_take 67 = .ok (.invokestatic 52, 3) := by decide +kernel
theorem dX6_take_70 : decode cX6_take 70 = .ok (.aload_n 1, 1) := by decide +kernel
theorem dX6_take_71 : decode cX6_take 71 = .ok (.getfield 25, 3) := by decide +kernel
theorem dX6_take_74 : decode cX6_take 74 = .ok (.iconst 0, 1) := by decide +kernel
theorem dX6_take_75 : decode cX6_take 75 = .ok (.aload_n 0, 1) := by decide +kernel
theorem dX6_take_76 : decode cX6_take 76 = .ok (.getfield 25, 3) := by decide +kernel
theorem dX6_take_79 : decode cX6_take 79 = .ok (.iconst 0, 1) := by decide +kernel
theorem dX6_take_80 : decode cX6_take 80 = .ok (.bipush 6, 2) := by decide +kernel
theorem dX6_take_82 : decode cX6_take 82 = .ok (.invokestatic 52, 3) := by decide +kernel
theorem dX6_take_85 : decode cX6_take 85 = .ok (.aload_n 1, 1) := by decide +kernel
theorem dX6_take_86 : decode cX6_take 86 = .ok (.getfield 28, 3) := by decide +kernel
theorem dX6_take_89 : decode cX6_take 89 = .ok (.iconst 0, 1) := by decide +kernel
theorem dX6_take_90 : decode cX6_take 90 = .ok (.aload_n 0, 1) := by decide +kernel
theorem dX6_take_91 : decode cX6_take 91 = .ok (.getfield 28, 3) := by decide +kernel
theorem dX6_take_94 : decode cX6_take 94 = .ok (.iconst 0, 1) := by decide +kernel
theorem dX6_take_95 : decode cX6_take 95 = .ok (.bipush 6, 2) := by decide +kernel
theorem dX6_take_97 : decode cX6_take 97 = .ok (.invokestatic 52, 3) := by decide +kernel
theorem dX6_take_100 : decode cX6_take 100 = .ok (.aload_n 1, 1) := by decide +kernel
theorem dX6_take_101 : decode cX6_take 101 = .ok (.getfield 31, 3) := by decide +kernel
theorem dX6_take_104 : decode cX6_take 104 = .ok (.iconst 0, 1) := by decide +kernel
theorem dX6_take_105 : decode cX6_take 105 = .ok (.aload_n 0, 1) := by decide +kernel
theorem dX6_take_106 : decode cX6_take 106 = .ok (.getfield 31, 3) := by decide +kernel
theorem dX6_take_109 : decode cX6_take 109 = .ok (.iconst 0, 1) := by decide +kernel
theorem dX6_take_110 : decode cX6_take 110 = .ok (.bipush 6, 2) := by decide +kernel
theorem dX6_take_112 : decode cX6_take 112 = .ok (.invokestatic 52, 3) := by decide +kernel
theorem dX6_take_115 : decode cX6_take 115 = .ok (.aload_n 1, 1) := by decide +kernel
theorem dX6_take_116 : decode cX6_take 116 = .ok (.getfield 34, 3) := by decide +kernel
theorem dX6_take_119 : decode cX6_take 119 = .ok (.iconst 0, 1) := by decide +kernel
theorem dX6_take_120 : decode cX6_take 120 = .ok (.aload_n 0, 1) := by decide +kernel
theorem dX6_take_121 : decode cX6_take 121 = .ok (.getfield 34, 3) := by decide +kernel
theorem dX6_take_124 : decode cX6_take 124 = .ok (.iconst 0, 1) := by decide +kernel
theorem dX6_take_125 : decode cX6_take 125 = .ok (.bipush 6, 2) := by decide +kernel
theorem dX6_take_127 : decode cX6_take 127 = .ok (.invokestatic 52, 3) := by decide +kernel
theorem dX6_take_130 : decode cX6_take 130 = .ok (.return_, 1) := by decide +kernel
theorem dX6_addWearer_0 : decode cX6_addWearer 0 = .ok (.aload_n 0, 1) := by decide +kernel
theorem dX6_addWearer_1 : decode cX6_addWearer 1 = .ok (.getfield 43, 3) := by decide +kernel
theorem dX6_addWearer_4 : decode cX6_addWearer 4 = .ok (.bipush 6, 2) := by decide +kernel
theorem dX6_addWearer_6 : decode cX6_addWearer 6 = .ok (.if_icmp .ge 54, 3) := by decide +kernel
theorem dX6_addWearer_9 : decode cX6_addWearer 9 = .ok (.aload_n 0, 1) := by decide +kernel
theorem dX6_addWearer_10 : decode cX6_addWearer 10 = .ok (.getfield 18, 3) := by decide +kernel
theorem dX6_addWearer_13 : decode cX6_addWearer 13 = .ok (.aload_n 0, 1) := by decide +kernel
theorem dX6_addWearer_14 : decode cX6_addWearer 14 = .ok (.getfield 43, 3) := by decide +kernel
theorem dX6_addWearer_17 : decode cX6_addWearer 17 = .ok (.iload_n 1, 1) := by decide +kernel
theorem dX6_addWearer_18 : decode cX6_addWearer 18 = .ok (.iastore, 1) := by decide +kernel
theorem dX6_addWearer_19 : decode cX6_addWearer 19 = .ok (.aload_n 0, 1) := by decide +kernel
theorem dX6_addWearer_20 : decode cX6_addWearer 20 = .ok (.getfield 22, 3) := by decide +kernel
theorem dX6_addWearer_23 : decode cX6_addWearer 23 = .ok (.aload_n 0, 1) := by decide +kernel
theorem dX6_addWearer_24 : decode cX6_addWearer 24 = .ok (.getfield 43, 3) := by decide +kernel
theorem dX6_addWearer_27 : decode cX6_addWearer 27 = .ok (.iload_n 2, 1) := by decide +kernel
theorem dX6_addWearer_28 : decode cX6_addWearer 28 = .ok (.iastore, 1) := by decide +kernel
theorem dX6_addWearer_29 : decode cX6_addWearer 29 = .ok (.aload_n 0, 1) := by decide +kernel
theorem dX6_addWearer_30 : decode cX6_addWearer 30 = .ok (.getfield 25, 3) := by decide +kernel
theorem dX6_addWearer_33 : decode cX6_addWearer 33 = .ok (.aload_n 0, 1) := by decide +kernel
theorem dX6_addWearer_34 : decode cX6_addWearer 34 = .ok (.getfield 43, 3) := by decide +kernel
theorem dX6_addWearer_37 : decode cX6_addWearer 37 = .ok (.iload_n 3, 1) := by decide +kernel
theorem dX6_addWearer_38 : decode cX6_addWearer 38 = .ok (.iastore, 1) := by decide +kernel
theorem dX6_addWearer_39 : decode cX6_addWearer 39 = .ok (.aload_n 0, 1) := by decide +kernel
theorem dX6_addWearer_40 : decode cX6_addWearer 40 = .ok (.getfield 28, 3) := by decide +kernel
theorem dX6_addWearer_43 : decode cX6_addWearer 43 = .ok (.aload_n 0, 1) := by decide +kernel
theorem dX6_addWearer_44 : decode cX6_addWearer 44 = .ok (.getfield 43, 3) := by decide +kernel
theorem dX6_addWearer_47 : decode cX6_addWearer 47 = .ok (.iload 4, 2) := by decide +kernel
theorem dX6_addWearer_49 : decode cX6_addWearer 49 = .ok (.iastore, 1) := by decide +kernel
theorem dX6_addWearer_50 : decode cX6_addWearer 50 = .ok (.aload_n 0, 1) := by decide +kernel
theorem dX6_addWearer_51 : decode cX6_addWearer 51 = .ok (.dup, 1) := by decide +kernel
theorem dX6_addWearer_52 : decode cX6_addWearer 52 = .ok (.getfield 43, 3) := by decide +kernel
theorem dX6_addWearer_55 : decode cX6_addWearer 55 = .ok (.iconst 1, 1) := by decide +kernel
theorem dX6_addWearer_56 : decode cX6_addWearer 56 = .ok (.iadd, 1) := by decide +kernel
theorem dX6_addWearer_57 : decode cX6_addWearer 57 = .ok (.putfield 43, 3) := by decide +kernel
theorem dX6_addWearer_60 : decode cX6_addWearer 60 = .ok (.return_, 1) := by decide +kernel
theorem dX6_hasWearer_0 : decode cX6_hasWearer 0 = .ok (.iload_n 1, 1) := by decide +kernel
theorem dX6_hasWearer_1 : decode cX6_hasWearer 1 = .ok (.ifCond .lt 15, 3) := by decide +kernel
theorem dX6_hasWearer_4 : decode cX6_hasWearer 4 = .ok (.iload_n 1, 1) := by decide +kernel
theorem dX6_hasWearer_5 : decode cX6_hasWearer 5 = .ok (.aload_n 0, 1) := by decide +kernel
theorem dX6_hasWearer_6 : decode cX6_hasWearer 6 = .ok (.getfield 43, 3) := by decide +kernel
theorem dX6_hasWearer_9 : decode cX6_hasWearer 9 = .ok (.if_icmp .ge 7, 3) := by decide +kernel
theorem dX6_hasWearer_12 : decode cX6_hasWearer 12 = .ok (.iconst 1, 1) := by decide +kernel
theorem dX6_hasWearer_13 : decode cX6_hasWearer 13 = .ok (.goto 4, 3) := by decide +kernel
theorem dX6_hasWearer_16 : decode cX6_hasWearer 16 = .ok (.iconst 0, 1) := by decide +kernel
theorem dX6_hasWearer_17 : decode cX6_hasWearer 17 = .ok (.ireturn, 1) := by decide +kernel
theorem dX6_tell_0 : decode cX6_tell 0 = .ok (.iload_n 1, 1) := by decide +kernel
theorem dX6_tell_1 : decode cX6_tell 1 = .ok (.tableswitch 60 0 4 #[35, 40, 45, 50, 55], 35) := by decide +kernel
theorem dX6_tell_36 : decode cX6_tell 36 = .ok (.aload_n 0, 1) := by decide +kernel
theorem dX6_tell_37 : decode cX6_tell 37 = .ok (.getfield 43, 3) := by decide +kernel
theorem dX6_tell_40 : decode cX6_tell 40 = .ok (.ireturn, 1) := by decide +kernel
theorem dX6_tell_41 : decode cX6_tell 41 = .ok (.aload_n 0, 1) := by decide +kernel
theorem dX6_tell_42 : decode cX6_tell 42 = .ok (.getfield 9, 3) := by decide +kernel
theorem dX6_tell_45 : decode cX6_tell 45 = .ok (.ireturn, 1) := by decide +kernel
theorem dX6_tell_46 : decode cX6_tell 46 = .ok (.aload_n 0, 1) := by decide +kernel
theorem dX6_tell_47 : decode cX6_tell 47 = .ok (.getfield 15, 3) := by decide +kernel
theorem dX6_tell_50 : decode cX6_tell 50 = .ok (.ireturn, 1) := by decide +kernel
theorem dX6_tell_51 : decode cX6_tell 51 = .ok (.aload_n 0, 1) := by decide +kernel
theorem dX6_tell_52 : decode cX6_tell 52 = .ok (.getfield 37, 3) := by decide +kernel
theorem dX6_tell_55 : decode cX6_tell 55 = .ok (.ireturn, 1) := by decide +kernel
theorem dX6_tell_56 : decode cX6_tell 56 = .ok (.aload_n 0, 1) := by decide +kernel
theorem dX6_tell_57 : decode cX6_tell 57 = .ok (.getfield 40, 3) := by decide +kernel
theorem dX6_tell_60 : decode cX6_tell 60 = .ok (.ireturn, 1) := by decide +kernel
theorem dX6_tell_61 : decode cX6_tell 61 = .ok (.iload_n 1, 1) := by decide +kernel
theorem dX6_tell_62 : decode cX6_tell 62 = .ok (.bipush 10, 2) := by decide +kernel
theorem dX6_tell_64 : decode cX6_tell 64 = .ok (.irem, 1) := by decide +kernel
theorem dX6_tell_65 : decode cX6_tell 65 = .ok (.istore_n 2, 1) := by decide +kernel
theorem dX6_tell_66 : decode cX6_tell 66 = .ok (.iload_n 1, 1) := by decide +kernel
theorem dX6_tell_67 : decode cX6_tell 67 = .ok (.bipush 10, 2) := by decide +kernel
theorem dX6_tell_69 : decode cX6_tell 69 = .ok (.if_icmp .lt 11, 3) := by decide +kernel
theorem dX6_tell_72 : decode cX6_tell 72 = .ok (.aload_n 0, 1) := by decide +kernel
theorem dX6_tell_73 : decode cX6_tell 73 = .ok (.iload_n 2, 1) := by decide +kernel
theorem dX6_tell_74 : decode cX6_tell 74 = .ok (.invokevirtual 58, 3) := by decide +kernel
theorem dX6_tell_77 : decode cX6_tell 77 = .ok (.ifCond .ne 6, 3) := by decide +kernel
theorem dX6_tell_80 : decode cX6_tell 80 = .ok (.bipush (-2), 2) := by decide +kernel
theorem dX6_tell_82 : decode cX6_tell 82 = .ok (.ireturn, 1) := by decide +kernel
theorem dX6_tell_83 : decode cX6_tell 83 = .ok (.iload_n 1, 1) := by decide +kernel
theorem dX6_tell_84 : decode cX6_tell 84 = .ok (.bipush 10, 2) := by decide +kernel
theorem dX6_tell_86 : decode cX6_tell 86 = .ok (.idiv, 1) := by decide +kernel
theorem dX6_tell_87 : decode cX6_tell 87 = .ok (.tableswitch 79 1 6 #[37, 44, 51, 58, 65, 72], 37) := by decide +kernel
theorem dX6_tell_124 : decode cX6_tell 124 = .ok (.aload_n 0, 1) := by decide +kernel
theorem dX6_tell_125 : decode cX6_tell 125 = .ok (.getfield 18, 3) := by decide +kernel
theorem dX6_tell_128 : decode cX6_tell 128 = .ok (.iload_n 2, 1) := by decide +kernel
theorem dX6_tell_129 : decode cX6_tell 129 = .ok (.iaload, 1) := by decide +kernel
theorem dX6_tell_130 : decode cX6_tell 130 = .ok (.ireturn, 1) := by decide +kernel
theorem dX6_tell_131 : decode cX6_tell 131 = .ok (.aload_n 0, 1) := by decide +kernel
theorem dX6_tell_132 : decode cX6_tell 132 = .ok (.getfield 22, 3) := by decide +kernel
theorem dX6_tell_135 : decode cX6_tell 135 = .ok (.iload_n 2, 1) := by decide +kernel
theorem dX6_tell_136 : decode cX6_tell 136 = .ok (.iaload, 1) := by decide +kernel
theorem dX6_tell_137 : decode cX6_tell 137 = .ok (.ireturn, 1) := by decide +kernel
theorem dX6_tell_138 : decode cX6_tell 138 = .ok (.aload_n 0, 1) := by decide +kernel
theorem dX6_tell_139 : decode cX6_tell 139 = .ok (.getfield 25, 3) := by decide +kernel
theorem dX6_tell_142 : decode cX6_tell 142 = .ok (.iload_n 2, 1) := by decide +kernel
theorem dX6_tell_143 : decode cX6_tell 143 = .ok (.iaload, 1) := by decide +kernel
theorem dX6_tell_144 : decode cX6_tell 144 = .ok (.ireturn, 1) := by decide +kernel
theorem dX6_tell_145 : decode cX6_tell 145 = .ok (.aload_n 0, 1) := by decide +kernel
theorem dX6_tell_146 : decode cX6_tell 146 = .ok (.getfield 28, 3) := by decide +kernel
theorem dX6_tell_149 : decode cX6_tell 149 = .ok (.iload_n 2, 1) := by decide +kernel
theorem dX6_tell_150 : decode cX6_tell 150 = .ok (.iaload, 1) := by decide +kernel
theorem dX6_tell_151 : decode cX6_tell 151 = .ok (.ireturn, 1) := by decide +kernel
theorem dX6_tell_152 : decode cX6_tell 152 = .ok (.aload_n 0, 1) := by decide +kernel
theorem dX6_tell_153 : decode cX6_tell 153 = .ok (.getfield 31, 3) := by decide +kernel
theorem dX6_tell_156 : decode cX6_tell 156 = .ok (.iload_n 2, 1) := by decide +kernel
theorem dX6_tell_157 : decode cX6_tell 157 = .ok (.iaload, 1) := by decide +kernel
theorem dX6_tell_158 : decode cX6_tell 158 = .ok (.ireturn, 1) := by decide +kernel
theorem dX6_tell_159 : decode cX6_tell 159 = .ok (.aload_n 0, 1) := by decide +kernel
theorem dX6_tell_160 : decode cX6_tell 160 = .ok (.getfield 34, 3) := by decide +kernel
theorem dX6_tell_163 : decode cX6_tell 163 = .ok (.iload_n 2, 1) := by decide +kernel
theorem dX6_tell_164 : decode cX6_tell 164 = .ok (.iaload, 1) := by decide +kernel
theorem dX6_tell_165 : decode cX6_tell 165 = .ok (.ireturn, 1) := by decide +kernel
theorem dX6_tell_166 : decode cX6_tell 166 = .ok (.bipush (-2), 2) := by decide +kernel
theorem dX6_tell_168 : decode cX6_tell 168 = .ok (.ireturn, 1) := by decide +kernel
theorem dX6_daysTo_0 : decode cX6_daysTo 0 = .ok (.aload_n 0, 1) := by decide +kernel
theorem dX6_daysTo_1 : decode cX6_daysTo 1 = .ok (.iload_n 3, 1) := by decide +kernel
theorem dX6_daysTo_2 : decode cX6_daysTo 2 = .ok (.invokevirtual 58, 3) := by decide +kernel
theorem dX6_daysTo_5 : decode cX6_daysTo 5 = .ok (.ifCond .eq 36, 3) := by decide +kernel
theorem dX6_daysTo_8 : decode cX6_daysTo 8 = .ok (.aload_n 0, 1) := by decide +kernel
theorem dX6_daysTo_9 : decode cX6_daysTo 9 = .ok (.getfield 18, 3) := by decide +kernel
theorem dX6_daysTo_12 : decode cX6_daysTo 12 = .ok (.iload_n 3, 1) := by decide +kernel
theorem dX6_daysTo_13 : decode cX6_daysTo 13 = .ok (.iaload, 1) := by decide +kernel
theorem dX6_daysTo_14 : decode cX6_daysTo 14 = .ok (.iload_n 1, 1) := by decide +kernel
theorem dX6_daysTo_15 : decode cX6_daysTo 15 = .ok (.isub, 1) := by decide +kernel
theorem dX6_daysTo_16 : decode cX6_daysTo 16 = .ok (.invokestatic 62, 3) := by decide +kernel
theorem dX6_daysTo_19 : decode cX6_daysTo 19 = .ok (.aload_n 0, 1) := by decide +kernel
theorem dX6_daysTo_20 : decode cX6_daysTo 20 = .ok (.getfield 22, 3) := by decide +kernel
theorem dX6_daysTo_23 : decode cX6_daysTo 23 = .ok (.iload_n 3, 1) := by decide +kernel
theorem dX6_daysTo_24 : decode cX6_daysTo 24 = .ok (.iaload, 1) := by decide +kernel
theorem dX6_daysTo_25 : decode cX6_daysTo 25 = .ok (.iload_n 2, 1) := by decide +kernel
theorem dX6_daysTo_26 : decode cX6_daysTo 26 = .ok (.isub, 1) := by decide +kernel
theorem dX6_daysTo_27 : decode cX6_daysTo 27 = .ok (.invokestatic 62, 3) := by decide +kernel
theorem dX6_daysTo_30 : decode cX6_daysTo 30 = .ok (.iadd, 1) := by decide +kernel
theorem dX6_daysTo_31 : decode cX6_daysTo 31 = .ok (.aload_n 0, 1) := by decide +kernel
theorem dX6_daysTo_32 : decode cX6_daysTo 32 = .ok (.getfield 15, 3) := by decide +kernel
theorem dX6_daysTo_35 : decode cX6_daysTo 35 = .ok (.invokestatic 68, 3) := by decide +kernel
theorem dX6_daysTo_38 : decode cX6_daysTo 38 = .ok (.goto 4, 3) := by decide +kernel
theorem dX6_daysTo_41 : decode cX6_daysTo 41 = .ok (.iconst 0, 1) := by decide +kernel
theorem dX6_daysTo_42 : decode cX6_daysTo 42 = .ok (.ireturn, 1) := by decide +kernel
theorem dX6_daysOfSewing_0 : decode cX6_daysOfSewing 0 = .ok (.aload_n 0, 1) := by decide +kernel
theorem dX6_daysOfSewing_1 : decode cX6_daysOfSewing 1 = .ok (.iload_n 1, 1) := by decide +kernel
theorem dX6_daysOfSewing_2 : decode cX6_daysOfSewing 2 = .ok (.invokevirtual 58, 3) := by decide +kernel
theorem dX6_daysOfSewing_5 : decode cX6_daysOfSewing 5 = .ok (.ifCond .eq 19, 3) := by decide +kernel
theorem dX6_daysOfSewing_8 : decode cX6_daysOfSewing 8 = .ok (.aload_n 0, 1) := by decide +kernel
theorem dX6_daysOfSewing_9 : decode cX6_daysOfSewing 9 = .ok (.getfield 25, 3) := by decide +kernel
theorem dX6_daysOfSewing_12 : decode cX6_daysOfSewing 12 = .ok (.iload_n 1, 1) := by decide +kernel
theorem dX6_daysOfSewing_13 : decode cX6_daysOfSewing 13 = .ok (.iaload, 1) := by decide +kernel
theorem dX6_daysOfSewing_14 : decode cX6_daysOfSewing 14 = .ok (.aload_n 0, 1) := by decide +kernel
theorem dX6_daysOfSewing_15 : decode cX6_daysOfSewing 15 = .ok (.getfield 9, 3) := by decide +kernel
theorem dX6_daysOfSewing_18 : decode cX6_daysOfSewing 18 = .ok (.invokestatic 68, 3) := by decide +kernel
theorem dX6_daysOfSewing_21 : decode cX6_daysOfSewing 21 = .ok (.goto 4, 3) := by decide +kernel
theorem dX6_daysOfSewing_24 : decode cX6_daysOfSewing 24 = .ok (.iconst 0, 1) := by decide +kernel
theorem dX6_daysOfSewing_25 : decode cX6_daysOfSewing 25 = .ok (.ireturn, 1) := by decide +kernel
theorem dX6_lastDay_0 : decode cX6_lastDay 0 = .ok (.iload_n 2, 1) := by decide +kernel
theorem dX6_lastDay_1 : decode cX6_lastDay 1 = .ok (.aload_n 0, 1) := by decide +kernel
theorem dX6_lastDay_2 : decode cX6_lastDay 2 = .ok (.iload_n 1, 1) := by decide +kernel
theorem dX6_lastDay_3 : decode cX6_lastDay 3 = .ok (.invokevirtual 72, 3) := by decide +kernel
theorem dX6_lastDay_6 : decode cX6_lastDay 6 = .ok (.iadd, 1) := by decide +kernel
theorem dX6_lastDay_7 : decode cX6_lastDay 7 = .ok (.iconst 1, 1) := by decide +kernel
theorem dX6_lastDay_8 : decode cX6_lastDay 8 = .ok (.isub, 1) := by decide +kernel
theorem dX6_lastDay_9 : decode cX6_lastDay 9 = .ok (.istore_n 3, 1) := by decide +kernel
theorem dX6_lastDay_10 : decode cX6_lastDay 10 = .ok (.aload_n 0, 1) := by decide +kernel
theorem dX6_lastDay_11 : decode cX6_lastDay 11 = .ok (.iload_n 1, 1) := by decide +kernel
theorem dX6_lastDay_12 : decode cX6_lastDay 12 = .ok (.invokevirtual 58, 3) := by decide +kernel
theorem dX6_lastDay_15 : decode cX6_lastDay 15 = .ok (.ifCond .eq 33, 3) := by decide +kernel
theorem dX6_lastDay_18 : decode cX6_lastDay 18 = .ok (.aload_n 0, 1) := by decide +kernel
theorem dX6_lastDay_19 : decode cX6_lastDay 19 = .ok (.getfield 31, 3) := by decide +kernel
theorem dX6_lastDay_22 : decode cX6_lastDay 22 = .ok (.iload_n 1, 1) := by decide +kernel
theorem dX6_lastDay_23 : decode cX6_lastDay 23 = .ok (.iaload, 1) := by decide +kernel
theorem dX6_lastDay_24 : decode cX6_lastDay 24 = .ok (.iconst (-1), 1) := by decide +kernel
theorem dX6_lastDay_25 : decode cX6_lastDay 25 = .ok (.if_icmp .eq 23, 3) := by decide +kernel
theorem dX6_lastDay_28 : decode cX6_lastDay 28 = .ok (.iload_n 3, 1) := by decide +kernel
theorem dX6_lastDay_29 : decode cX6_lastDay 29 = .ok (.aload_n 0, 1) := by decide +kernel
theorem dX6_lastDay_30 : decode cX6_lastDay 30 = .ok (.getfield 31, 3) := by decide +kernel
theorem dX6_lastDay_33 : decode cX6_lastDay 33 = .ok (.iload_n 1, 1) := by decide +kernel
theorem dX6_lastDay_34 : decode cX6_lastDay 34 = .ok (.iaload, 1) := by decide +kernel
theorem dX6_lastDay_35 : decode cX6_lastDay 35 = .ok (.if_icmp .lt 13, 3) := by decide +kernel
theorem dX6_lastDay_38 : decode cX6_lastDay 38 = .ok (.iload_n 2, 1) := by decide +kernel
theorem dX6_lastDay_39 : decode cX6_lastDay 39 = .ok (.aload_n 0, 1) := by decide +kernel
theorem dX6_lastDay_40 : decode cX6_lastDay 40 = .ok (.getfield 34, 3) := by decide +kernel
theorem dX6_lastDay_43 : decode cX6_lastDay 43 = .ok (.iload_n 1, 1) := by decide +kernel
theorem dX6_lastDay_44 : decode cX6_lastDay 44 = .ok (.iaload, 1) := by decide +kernel
theorem dX6_lastDay_45 : decode cX6_lastDay 45 = .ok (.if_icmp .le 5, 3) := by decide +kernel
theorem dX6_lastDay_48 : decode cX6_lastDay 48 = .ok (.iload_n 3, 1) := by decide +kernel
theorem dX6_lastDay_49 : decode cX6_lastDay 49 = .ok (.ireturn, 1) := by decide +kernel
theorem dX6_lastDay_50 : decode cX6_lastDay 50 = .ok (.aload_n 0, 1) := by decide +kernel
theorem dX6_lastDay_51 : decode cX6_lastDay 51 = .ok (.getfield 34, 3) := by decide +kernel
theorem dX6_lastDay_54 : decode cX6_lastDay 54 = .ok (.iload_n 1, 1) := by decide +kernel
theorem dX6_lastDay_55 : decode cX6_lastDay 55 = .ok (.iaload, 1) := by decide +kernel
theorem dX6_lastDay_56 : decode cX6_lastDay 56 = .ok (.aload_n 0, 1) := by decide +kernel
theorem dX6_lastDay_57 : decode cX6_lastDay 57 = .ok (.iload_n 1, 1) := by decide +kernel
theorem dX6_lastDay_58 : decode cX6_lastDay 58 = .ok (.invokevirtual 72, 3) := by decide +kernel
theorem dX6_lastDay_61 : decode cX6_lastDay 61 = .ok (.iadd, 1) := by decide +kernel
theorem dX6_lastDay_62 : decode cX6_lastDay 62 = .ok (.ireturn, 1) := by decide +kernel
theorem dX7_init_0 : decode cX7_init 0 = .ok (.aload_n 0, 1) := by decide +kernel
theorem dX7_init_1 : decode cX7_init 1 = .ok (.invokespecial 3, 3) := by decide +kernel
theorem dX7_init_4 : decode cX7_init 4 = .ok (.aload_n 0, 1) := by decide +kernel
theorem dX7_init_5 : decode cX7_init 5 = .ok (.new 9, 3) := by decide +kernel
theorem dX7_init_8 : decode cX7_init 8 = .ok (.dup, 1) := by decide +kernel
theorem dX7_init_9 : decode cX7_init 9 = .ok (.invokespecial 11, 3) := by decide +kernel
theorem dX7_init_12 : decode cX7_init 12 = .ok (.putfield 12, 3) := by decide +kernel
theorem dX7_init_15 : decode cX7_init 15 = .ok (.aload_n 0, 1) := by decide +kernel
theorem dX7_init_16 : decode cX7_init 16 = .ok (.bipush 6, 2) := by decide +kernel
theorem dX7_init_18 : decode cX7_init 18 = .ok (.newarray .int, 2) := by decide +kernel
theorem dX7_init_20 : decode cX7_init 20 = .ok (.putfield 18, 3) := by decide +kernel
theorem dX7_init_23 : decode cX7_init 23 = .ok (.aload_n 0, 1) := by decide +kernel
theorem dX7_init_24 : decode cX7_init 24 = .ok (.bipush 6, 2) := by decide +kernel
theorem dX7_init_26 : decode cX7_init 26 = .ok (.newarray .int, 2) := by decide +kernel
theorem dX7_init_28 : decode cX7_init 28 = .ok (.putfield 22, 3) := by decide +kernel
theorem dX7_init_31 : decode cX7_init 31 = .ok (.aload_n 0, 1) := by decide +kernel
theorem dX7_init_32 : decode cX7_init 32 = .ok (.bipush 6, 2) := by decide +kernel
theorem dX7_init_34 : decode cX7_init 34 = .ok (.newarray .int, 2) := by decide +kernel
theorem dX7_init_36 : decode cX7_init 36 = .ok (.putfield 25, 3) := by decide +kernel
theorem dX7_init_39 : decode cX7_init 39 = .ok (.aload_n 0, 1) := by decide +kernel
theorem dX7_init_40 : decode cX7_init 40 = .ok (.bipush 6, 2) := by decide +kernel
theorem dX7_init_42 : decode cX7_init 42 = .ok (.newarray .int, 2) := by decide +kernel
theorem dX7_init_44 : decode cX7_init 44 = .ok (.putfield 28, 3) := by decide +kernel
theorem dX7_init_47 : decode cX7_init 47 = .ok (.return_, 1) := by decide +kernel
theorem dX7_begin_0 : decode cX7_begin 0 = .ok (.aload_n 0, 1) := by decide +kernel
theorem dX7_begin_1 : decode cX7_begin 1 = .ok (.aload_n 1, 1) := by decide +kernel
theorem dX7_begin_2 : decode cX7_begin 2 = .ok (.putfield 12, 3) := by decide +kernel
theorem dX7_begin_5 : decode cX7_begin 5 = .ok (.aload_n 0, 1) := by decide +kernel
theorem dX7_begin_6 : decode cX7_begin 6 = .ok (.iload_n 2, 1) := by decide +kernel
theorem dX7_begin_7 : decode cX7_begin 7 = .ok (.putfield 31, 3) := by decide +kernel
theorem dX7_begin_10 : decode cX7_begin 10 = .ok (.aload_n 0, 1) := by decide +kernel
theorem dX7_begin_11 : decode cX7_begin 11 = .ok (.iload_n 3, 1) := by decide +kernel
theorem dX7_begin_12 : decode cX7_begin 12 = .ok (.putfield 35, 3) := by decide +kernel
theorem dX7_begin_15 : decode cX7_begin 15 = .ok (.aload_n 0, 1) := by decide +kernel
theorem dX7_begin_16 : decode cX7_begin 16 = .ok (.iconst 0, 1) := by decide +kernel
theorem dX7_begin_17 : decode cX7_begin 17 = .ok (.putfield 38, 3) := by decide +kernel
theorem dX7_begin_20 : decode cX7_begin 20 = .ok (.aload_n 0, 1) := by decide +kernel
theorem dX7_begin_21 : decode cX7_begin 21 = .ok (.iconst 0, 1) := by decide +kernel
theorem dX7_begin_22 : decode cX7_begin 22 = .ok (.putfield 41, 3) := by decide +kernel
theorem dX7_begin_25 : decode cX7_begin 25 = .ok (.aload_n 0, 1) := by decide +kernel
theorem dX7_begin_26 : decode cX7_begin 26 = .ok (.iconst 0, 1) := by decide +kernel
theorem dX7_begin_27 : decode cX7_begin 27 = .ok (.putfield 44, 3) := by decide +kernel
theorem dX7_begin_30 : decode cX7_begin 30 = .ok (.iconst 0, 1) := by decide +kernel
theorem dX7_begin_31 : decode cX7_begin 31 = .ok (.istore 4, 2) := by decide +kernel
theorem dX7_begin_33 : decode cX7_begin 33 = .ok (.iload 4, 2) := by decide +kernel
theorem dX7_begin_35 : decode cX7_begin 35 = .ok (.aload_n 1, 1) := by decide +kernel
theorem dX7_begin_36 : decode cX7_begin 36 = .ok (.getfield 47, 3) := by decide +kernel
theorem dX7_begin_39 : decode cX7_begin 39 = .ok (.if_icmp .ge 24, 3) := by decide +kernel
theorem dX7_begin_42 : decode cX7_begin 42 = .ok (.aload_n 0, 1) := by decide +kernel
theorem dX7_begin_43 : decode cX7_begin 43 = .ok (.dup, 1) := by decide +kernel
theorem dX7_begin_44 : decode cX7_begin 44 = .ok (.getfield 44, 3) := by decide +kernel
theorem dX7_begin_47 : decode cX7_begin 47 = .ok (.aload_n 1, 1) := by decide +kernel
theorem dX7_begin_48 : decode cX7_begin 48 = .ok (.iload 4, 2) := by decide +kernel
theorem dX7_begin_50 : decode cX7_begin 50 = .ok (.invokevirtual 50, 3) := by decide +kernel
theorem dX7_begin_53 : decode cX7_begin 53 = .ok (.iadd, 1) := by decide +kernel
theorem dX7_begin_54 : decode cX7_begin 54 = .ok (.putfield 44, 3) := by decide +kernel
theorem dX7_begin_57 : decode cX7_begin 57 = .ok (.iinc 4 1, 3) := by decide +kernel
theorem dX7_begin_60 : decode cX7_begin 60 = .ok (.goto (-27), 3) := by decide +kernel
theorem dX7_begin_63 : decode cX7_begin 63 = .ok (.return_, 1) := by decide +kernel
theorem dX7_go_0 : decode cX7_go 0 = .ok (.aload_n 0, 1) := by decide +kernel
theorem dX7_go_1 : decode cX7_go 1 = .ok (.getfield 12, 3) := by decide +kernel
theorem dX7_go_4 : decode cX7_go 4 = .ok (.iload_n 1, 1) := by decide +kernel
theorem dX7_go_5 : decode cX7_go 5 = .ok (.invokevirtual 54, 3) := by decide +kernel
theorem dX7_go_8 : decode cX7_go 8 = .ok (.ifCond .eq 24, 3) := by decide +kernel
theorem dX7_go_11 : decode cX7_go 11 = .ok (.aload_n 0, 1) := by decide +kernel
theorem dX7_go_12 : decode cX7_go 12 = .ok (.getfield 41, 3) := by decide +kernel
theorem dX7_go_15 : decode cX7_go 15 = .ok (.iload_n 1, 1) := by decide +kernel
theorem dX7_go_16 : decode cX7_go 16 = .ok (.ishr, 1) := by decide +kernel
theorem dX7_go_17 : decode cX7_go 17 = .ok (.iconst 1, 1) := by decide +kernel
theorem dX7_go_18 : decode cX7_go 18 = .ok (.iand, 1) := by decide +kernel
theorem dX7_go_19 : decode cX7_go 19 = .ok (.iconst 1, 1) := by decide +kernel
theorem dX7_go_20 : decode cX7_go 20 = .ok (.if_icmp .eq 12, 3) := by decide +kernel
theorem dX7_go_23 : decode cX7_go 23 = .ok (.aload_n 0, 1) := by decide +kernel
theorem dX7_go_24 : decode cX7_go 24 = .ok (.getfield 38, 3) := by decide +kernel
theorem dX7_go_27 : decode cX7_go 27 = .ok (.bipush 6, 2) := by decide +kernel
theorem dX7_go_29 : decode cX7_go 29 = .ok (.if_icmp .lt 5, 3) := by decide +kernel
theorem dX7_go_32 : decode cX7_go 32 = .ok (.iconst 0, 1) := by decide +kernel
theorem dX7_go_33 : decode cX7_go 33 = .ok (.ireturn, 1) := by decide +kernel
theorem dX7_go_34 : decode cX7_go 34 = .ok (.aload_n 0, 1) := by decide +kernel
theorem dX7_go_35 : decode cX7_go 35 = .ok (.getfield 38, 3) := by decide +kernel
theorem dX7_go_38 : decode cX7_go 38 = .ok (.ifCond .le 17, 3) := by decide +kernel
theorem dX7_go_41 : decode cX7_go 41 = .ok (.aload_n 0, 1) := by decide +kernel
theorem dX7_go_42 : decode cX7_go 42 = .ok (.getfield 18, 3) := by decide +kernel
theorem dX7_go_45 : decode cX7_go 45 = .ok (.aload_n 0, 1) := by decide +kernel
theorem dX7_go_46 : decode cX7_go 46 = .ok (.getfield 38, 3) := by decide +kernel
theorem dX7_go_49 : decode cX7_go 49 = .ok (.iconst 1, 1) := by decide +kernel
theorem dX7_go_50 : decode cX7_go 50 = .ok (.isub, 1) := by decide +kernel
theorem dX7_go_51 : decode cX7_go 51 = .ok (.iaload, 1) := by decide +kernel
theorem dX7_go_52 : decode cX7_go 52 = .ok (.goto 4, 3) := by decide +kernel
theorem dX7_go_55 : decode cX7_go 55 = .ok (.iconst (-1), 1) := by decide +kernel
theorem dX7_go_56 : decode cX7_go 56 = .ok (.istore_n 2, 1) := by decide +kernel
theorem dX7_go_57 : decode cX7_go 57 = .ok (.aload_n 0, 1) := by decide +kernel
theorem dX7_go_58 : decode cX7_go 58 = .ok (.getfield 12, 3) := by decide +kernel
theorem dX7_go_61 : decode cX7_go 61 = .ok (.iload_n 2, 1) := by decide +kernel
theorem dX7_go_62 : decode cX7_go 62 = .ok (.invokevirtual 54, 3) := by decide +kernel
theorem dX7_go_65 : decode cX7_go 65 = .ok (.ifCond .eq 15, 3) := by decide +kernel
theorem dX7_go_68 : decode cX7_go 68 = .ok (.aload_n 0, 1) := by decide +kernel
theorem dX7_go_69 : decode cX7_go 69 = .ok (.getfield 12, 3) := by decide +kernel
theorem dX7_go_72 : decode cX7_go 72 = .ok (.getfield 58, 3) := by decide +kernel
theorem dX7_go_75 : decode cX7_go 75 = .ok (.iload_n 2, 1) := by decide +kernel
theorem dX7_go_76 : decode cX7_go 76 = .ok (.iaload, 1) := by decide +kernel
theorem dX7_go_77 : decode cX7_go 77 = .ok (.goto 7, 3) := by decide +kernel
theorem dX7_go_80 : decode cX7_go 80 = .ok (.aload_n 0, 1) := by decide +kernel
theorem dX7_go_81 : decode cX7_go 81 = .ok (.getfield 31, 3) := by decide +kernel
theorem dX7_go_84 : decode cX7_go 84 = .ok (.istore_n 3, 1) := by decide +kernel
theorem dX7_go_85 : decode cX7_go 85 = .ok (.aload_n 0, 1) := by decide +kernel
theorem dX7_go_86 : decode cX7_go 86 = .ok (.getfield 12, 3) := by decide +kernel
theorem dX7_go_89 : decode cX7_go 89 = .ok (.iload_n 2, 1) := by decide +kernel
theorem dX7_go_90 : decode cX7_go 90 = .ok (.invokevirtual 54, 3) := by decide +kernel
theorem dX7_go_93 : decode cX7_go 93 = .ok (.ifCond .eq 15, 3) := by decide +kernel
theorem dX7_go_96 : decode cX7_go 96 = .ok (.aload_n 0, 1) := by decide +kernel
theorem dX7_go_97 : decode cX7_go 97 = .ok (.getfield 12, 3) := by decide +kernel
theorem dX7_go_100 : decode cX7_go 100 = .ok (.getfield 61, 3) := by decide +kernel
theorem dX7_go_103 : decode cX7_go 103 = .ok (.iload_n 2, 1) := by decide +kernel
theorem dX7_go_104 : decode cX7_go 104 = .ok (.iaload, 1) := by decide +kernel
theorem dX7_go_105 : decode cX7_go 105 = .ok (.goto 7, 3) := by decide +kernel
theorem dX7_go_108 : decode cX7_go 108 = .ok (.aload_n 0, 1) := by decide +kernel
theorem dX7_go_109 : decode cX7_go 109 = .ok (.getfield 35, 3) := by decide +kernel
theorem dX7_go_112 : decode cX7_go 112 = .ok (.istore 4, 2) := by decide +kernel
theorem dX7_go_114 : decode cX7_go 114 = .ok (.aload_n 0, 1) := by decide +kernel
theorem dX7_go_115 : decode cX7_go 115 = .ok (.getfield 12, 3) := by decide +kernel
theorem dX7_go_118 : decode cX7_go 118 = .ok (.iload_n 1, 1) := by decide +kernel
theorem dX7_go_119 : decode cX7_go 119 = .ok (.aload_n 0, 1) := by decide +kernel
theorem dX7_go_120 : decode cX7_go 120 = .ok (.invokevirtual 64, 3) := by decide +kernel
theorem dX7_go_123 : decode cX7_go 123 = .ok (.iconst 1, 1) := by decide +kernel
theorem dX7_go_124 : decode cX7_go 124 = .ok (.iadd, 1) := by decide +kernel
theorem dX7_go_125 : decode cX7_go 125 = .ok (.aload_n 0, 1) := by decide +kernel
theorem dX7_go_126 : decode cX7_go 126 = .ok (.getfield 12, 3) := by decide +kernel
theorem dX7_go_129 : decode cX7_go 129 = .ok (.iload_n 3, 1) := by decide +kernel
theorem dX7_go_130 : decode cX7_go 130 = .ok (.iload 4, 2) := by decide +kernel
theorem dX7_go_132 : decode cX7_go 132 = .ok (.iload_n 1, 1) := by decide +kernel
theorem dX7_go_133 : decode cX7_go 133 = .ok (.invokevirtual 68, 3) := by decide +kernel
theorem dX7_go_136 : decode cX7_go 136 = .ok (.iadd, 1) := by decide +kernel
theorem dX7_go_137 : decode cX7_go 137 = .ok (.invokevirtual 72, 3) := by decide +kernel
theorem dX7_go_140 : decode cX7_go 140 = .ok (.istore 5, 2) := by decide +kernel
theorem dX7_go_142 : decode cX7_go 142 = .ok (.aload_n 0, 1) := by decide +kernel
theorem dX7_go_143 : decode cX7_go 143 = .ok (.getfield 25, 3) := by decide +kernel
theorem dX7_go_146 : decode cX7_go 146 = .ok (.aload_n 0, 1) := by decide +kernel
theorem dX7_go_147 : decode cX7_go 147 = .ok (.getfield 38, 3) := by decide +kernel
theorem dX7_go_150 : decode cX7_go 150 = .ok (.aload_n 0, 1) := by decide +kernel
theorem dX7_go_151 : decode cX7_go 151 = .ok (.invokevirtual 76, 3) := by decide +kernel
theorem dX7_go_154 : decode cX7_go 154 = .ok (.iconst 0, 1) := by decide +kernel
theorem dX7_go_155 : decode cX7_go 155 = .ok (.iload 5, 2) := by decide +kernel
theorem dX7_go_157 : decode cX7_go 157 = .ok (.aload_n 0, 1) := by decide +kernel
theorem dX7_go_158 : decode cX7_go 158 = .ok (.getfield 12, 3) := by decide +kernel
theorem dX7_go_161 : decode cX7_go 161 = .ok (.getfield 79, 3) := by decide +kernel
theorem dX7_go_164 : decode cX7_go 164 = .ok (.iload_n 1, 1) := by decide +kernel
theorem dX7_go_165 : decode cX7_go 165 = .ok (.iaload, 1) := by decide +kernel
theorem dX7_go_166 : decode cX7_go 166 = .ok (.isub, 1) := by decide +kernel
theorem dX7_go_167 : decode cX7_go 167 = .ok (.invokestatic 82, 3) := by decide +kernel
theorem dX7_go_170 : decode cX7_go 170 = .ok (.iadd, 1) := by decide +kernel
theorem dX7_go_171 : decode cX7_go 171 = .ok (.iastore, 1) := by decide +kernel
theorem dX7_go_172 : decode cX7_go 172 = .ok (.aload_n 0, 1) := by decide +kernel
theorem dX7_go_173 : decode cX7_go 173 = .ok (.getfield 18, 3) := by decide +kernel
theorem dX7_go_176 : decode cX7_go 176 = .ok (.aload_n 0, 1) := by decide +kernel
theorem dX7_go_177 : decode cX7_go 177 = .ok (.getfield 38, 3) := by decide +kernel
theorem dX7_go_180 : decode cX7_go 180 = .ok (.iload_n 1, 1) := by decide +kernel
theorem dX7_go_181 : decode cX7_go 181 = .ok (.iastore, 1) := by decide +kernel
theorem dX7_go_182 : decode cX7_go 182 = .ok (.aload_n 0, 1) := by decide +kernel
theorem dX7_go_183 : decode cX7_go 183 = .ok (.getfield 22, 3) := by decide +kernel
theorem dX7_go_186 : decode cX7_go 186 = .ok (.aload_n 0, 1) := by decide +kernel
theorem dX7_go_187 : decode cX7_go 187 = .ok (.getfield 38, 3) := by decide +kernel
theorem dX7_go_190 : decode cX7_go 190 = .ok (.iload 5, 2) := by decide +kernel
theorem dX7_go_192 : decode cX7_go 192 = .ok (.iastore, 1) := by decide +kernel
theorem dX7_go_193 : decode cX7_go 193 = .ok (.aload_n 0, 1) := by decide +kernel
theorem dX7_go_194 : decode cX7_go 194 = .ok (.dup, 1) := by decide +kernel
theorem dX7_go_195 : decode cX7_go 195 = .ok (.getfield 41, 3) := by decide +kernel
theorem dX7_go_198 : decode cX7_go 198 = .ok (.iconst 1, 1) := by decide +kernel
theorem dX7_go_199 : decode cX7_go 199 = .ok (.iload_n 1, 1) := by decide +kernel
theorem dX7_go_200 : decode cX7_go 200 = .ok (.ishl, 1) := by decide +kernel
theorem dX7_go_201 : decode cX7_go 201 = .ok (.ior, 1) := by decide +kernel
theorem dX7_go_202 : decode cX7_go 202 = .ok (.putfield 41, 3) := by decide +kernel
theorem dX7_go_205 : decode cX7_go 205 = .ok (.aload_n 0, 1) := by decide +kernel
theorem dX7_go_206 : decode cX7_go 206 = .ok (.dup, 1) := by decide +kernel
theorem dX7_go_207 : decode cX7_go 207 = .ok (.getfield 44, 3) := by decide +kernel
theorem dX7_go_210 : decode cX7_go 210 = .ok (.aload_n 0, 1) := by decide +kernel
theorem dX7_go_211 : decode cX7_go 211 = .ok (.getfield 12, 3) := by decide +kernel
theorem dX7_go_214 : decode cX7_go 214 = .ok (.iload_n 1, 1) := by decide +kernel
theorem dX7_go_215 : decode cX7_go 215 = .ok (.invokevirtual 50, 3) := by decide +kernel
theorem dX7_go_218 : decode cX7_go 218 = .ok (.isub, 1) := by decide +kernel
theorem dX7_go_219 : decode cX7_go 219 = .ok (.putfield 44, 3) := by decide +kernel
theorem dX7_go_222 : decode cX7_go 222 = .ok (.aload_n 0, 1) := by decide +kernel
theorem dX7_go_223 : decode cX7_go 223 = .ok (.dup, 1) := by decide +kernel
theorem dX7_go_224 : decode cX7_go 224 = .ok (.getfield 38, 3) := by decide +kernel
theorem dX7_go_227 : decode cX7_go 227 = .ok (.iconst 1, 1) := by decide +kernel
theorem dX7_go_228 : decode cX7_go 228 = .ok (.iadd, 1) := by decide +kernel
theorem dX7_go_229 : decode cX7_go 229 = .ok (.putfield 38, 3) := by decide +kernel
theorem dX7_go_232 : decode cX7_go 232 = .ok (.iconst 1, 1) := by decide +kernel
theorem dX7_go_233 : decode cX7_go 233 = .ok (.ireturn, 1) := by decide +kernel
theorem dX7_back_0 : decode cX7_back 0 = .ok (.aload_n 0, 1) := by decide +kernel
theorem dX7_back_1 : decode cX7_back 1 = .ok (.getfield 38, 3) := by decide +kernel
theorem dX7_back_4 : decode cX7_back 4 = .ok (.iconst 1, 1) := by decide +kernel
theorem dX7_back_5 : decode cX7_back 5 = .ok (.if_icmp .ge 5, 3) := by decide +kernel
theorem dX7_back_8 : decode cX7_back 8 = .ok (.iconst (-1), 1) := by decide +kernel
theorem dX7_back_9 : decode cX7_back 9 = .ok (.ireturn, 1) := by decide +kernel
theorem dX7_back_10 : decode cX7_back 10 = .ok (.aload_n 0, 1) := by decide +kernel
theorem dX7_back_11 : decode cX7_back 11 = .ok (.dup, 1) := by decide +kernel
theorem dX7_back_12 : decode cX7_back 12 = .ok (.getfield 38, 3) := by decide +kernel
theorem dX7_back_15 : decode cX7_back 15 = .ok (.iconst 1, 1) := by decide +kernel
theorem dX7_back_16 : decode cX7_back 16 = .ok (.isub, 1) := by decide +kernel
theorem dX7_back_17 : decode cX7_back 17 = .ok (.putfield 38, 3) := by decide +kernel
theorem dX7_back_20 : decode cX7_back 20 = .ok (.aload_n 0, 1) := by decide +kernel
theorem dX7_back_21 : decode cX7_back 21 = .ok (.getfield 18, 3) := by decide +kernel
theorem dX7_back_24 : decode cX7_back 24 = .ok (.aload_n 0, 1) := by decide +kernel
theorem dX7_back_25 : decode cX7_back 25 = .ok (.getfield 38, 3) := by decide +kernel
theorem dX7_back_28 : decode cX7_back 28 = .ok (.iaload, 1) := by decide +kernel
theorem dX7_back_29 : decode cX7_back 29 = .ok (.istore_n 1, 1) := by decide +kernel
theorem dX7_back_30 : decode cX7_back 30 = .ok (.aload_n 0, 1) := by decide +kernel
theorem dX7_back_31 : decode cX7_back 31 = .ok (.dup, 1) := by decide +kernel
theorem dX7_back_32 : decode cX7_back 32 = .ok (.getfield 41, 3) := by decide +kernel
theorem dX7_back_35 : decode cX7_back 35 = .ok (.iconst 1, 1) := by decide +kernel
theorem dX7_back_36 : decode cX7_back 36 = .ok (.iload_n 1, 1) := by decide +kernel
theorem dX7_back_37 : decode cX7_back 37 = .ok (.ishl, 1) := by decide +kernel
theorem dX7_back_38 : decode cX7_back 38 = .ok (.iconst (-1), 1) := by decide +kernel
theorem dX7_back_39 : decode cX7_back 39 = .ok (.ixor, 1) := by decide +kernel
theorem dX7_back_40 : decode cX7_back 40 = .ok (.iand, 1) := by decide +kernel
theorem dX7_back_41 : decode cX7_back 41 = .ok (.putfield 41, 3) := by decide +kernel
theorem dX7_back_44 : decode cX7_back 44 = .ok (.aload_n 0, 1) := by decide +kernel
theorem dX7_back_45 : decode cX7_back 45 = .ok (.dup, 1) := by decide +kernel
theorem dX7_back_46 : decode cX7_back 46 = .ok (.getfield 44, 3) := by decide +kernel
theorem dX7_back_49 : decode cX7_back 49 = .ok (.aload_n 0, 1) := by decide +kernel
theorem dX7_back_50 : decode cX7_back 50 = .ok (.getfield 12, 3) := by decide +kernel
theorem dX7_back_53 : decode cX7_back 53 = .ok (.iload_n 1, 1) := by decide +kernel
theorem dX7_back_54 : decode cX7_back 54 = .ok (.invokevirtual 50, 3) := by decide +kernel
theorem dX7_back_57 : decode cX7_back 57 = .ok (.iadd, 1) := by decide +kernel
theorem dX7_back_58 : decode cX7_back 58 = .ok (.putfield 44, 3) := by decide +kernel
theorem dX7_back_61 : decode cX7_back 61 = .ok (.iload_n 1, 1) := by decide +kernel
theorem dX7_back_62 : decode cX7_back 62 = .ok (.ireturn, 1) := by decide +kernel
theorem dX7_turn_0 : decode cX7_turn 0 = .ok (.iload_n 1, 1) := by decide +kernel
theorem dX7_turn_1 : decode cX7_turn 1 = .ok (.ifCond .eq 7, 3) := by decide +kernel
theorem dX7_turn_4 : decode cX7_turn 4 = .ok (.iconst 0, 1) := by decide +kernel
theorem dX7_turn_5 : decode cX7_turn 5 = .ok (.goto 9, 3) := by decide +kernel
theorem dX7_turn_8 : decode cX7_turn 8 = .ok (.aload_n 0, 1) := by decide +kernel
theorem dX7_turn_9 : decode cX7_turn 9 = .ok (.invokevirtual 87, 3) := by decide +kernel
theorem dX7_turn_12 : decode cX7_turn 12 = .ok (.iconst 1, 1) := by decide +kernel
theorem dX7_turn_13 : decode cX7_turn 13 = .ok (.iadd, 1) := by decide +kernel
theorem dX7_turn_14 : decode cX7_turn 14 = .ok (.istore_n 2, 1) := by decide +kernel
theorem dX7_turn_15 : decode cX7_turn 15 = .ok (.iconst 0, 1) := by decide +kernel
theorem dX7_turn_16 : decode cX7_turn 16 = .ok (.istore_n 3, 1) := by decide +kernel
theorem dX7_turn_17 : decode cX7_turn 17 = .ok (.iload_n 3, 1) := by decide +kernel
theorem dX7_turn_18 : decode cX7_turn 18 = .ok (.bipush 6, 2) := by decide +kernel
theorem dX7_turn_20 : decode cX7_turn 20 = .ok (.if_icmp .gt 57, 3) := by decide +kernel
theorem dX7_turn_23 : decode cX7_turn 23 = .ok (.iload_n 2, 1) := by decide +kernel
theorem dX7_turn_24 : decode cX7_turn 24 = .ok (.istore 4, 2) := by decide +kernel
theorem dX7_turn_26 : decode cX7_turn 26 = .ok (.iload 4, 2) := by decide +kernel
theorem dX7_turn_28 : decode cX7_turn 28 = .ok (.aload_n 0, 1) := by decide +kernel
theorem dX7_turn_29 : decode cX7_turn 29 = .ok (.getfield 12, 3) := by decide +kernel
theorem dX7_turn_32 : decode cX7_turn 32 = .ok (.getfield 47, 3) := by decide +kernel
theorem dX7_turn_35 : decode cX7_turn 35 = .ok (.if_icmp .ge 20, 3) := by decide +kernel
theorem dX7_turn_38 : decode cX7_turn 38 = .ok (.aload_n 0, 1) := by decide +kernel
theorem dX7_turn_39 : decode cX7_turn 39 = .ok (.iload 4, 2) := by decide +kernel
theorem dX7_turn_41 : decode cX7_turn 41 = .ok (.invokevirtual 90, 3) := by decide +kernel
theorem dX7_turn_44 : decode cX7_turn 44 = .ok (.ifCond .eq 5, 3) := by decide +kernel
theorem dX7_turn_47 : decode cX7_turn 47 = .ok (.iconst 1, 1) := by decide +kernel
theorem dX7_turn_48 : decode cX7_turn 48 = .ok (.ireturn, 1) := by decide +kernel
theorem dX7_turn_49 : decode cX7_turn 49 = .ok (.iinc 4 1, 3) := by decide +kernel
theorem dX7_turn_52 : decode cX7_turn 52 = .ok (.goto (-26), 3) := by decide +kernel
theorem dX7_turn_55 : decode cX7_turn 55 = .ok (.aload_n 0, 1) := by decide +kernel
theorem dX7_turn_56 : decode cX7_turn 56 = .ok (.getfield 38, 3) := by decide +kernel
theorem dX7_turn_59 : decode cX7_turn 59 = .ok (.ifCond .ne 5, 3) := by decide +kernel
theorem dX7_turn_62 : decode cX7_turn 62 = .ok (.iconst 0, 1) := by decide +kernel
theorem dX7_turn_63 : decode cX7_turn 63 = .ok (.ireturn, 1) := by decide +kernel
theorem dX7_turn_64 : decode cX7_turn 64 = .ok (.aload_n 0, 1) := by decide +kernel
theorem dX7_turn_65 : decode cX7_turn 65 = .ok (.invokevirtual 87, 3) := by decide +kernel
theorem dX7_turn_68 : decode cX7_turn 68 = .ok (.iconst 1, 1) := by decide +kernel
theorem dX7_turn_69 : decode cX7_turn 69 = .ok (.iadd, 1) := by decide +kernel
theorem dX7_turn_70 : decode cX7_turn 70 = .ok (.istore_n 2, 1) := by decide +kernel
theorem dX7_turn_71 : decode cX7_turn 71 = .ok (.iinc 3 1, 3) := by decide +kernel
theorem dX7_turn_74 : decode cX7_turn 74 = .ok (.goto (-57), 3) := by decide +kernel
theorem dX7_turn_77 : decode cX7_turn 77 = .ok (.iconst 0, 1) := by decide +kernel
theorem dX7_turn_78 : decode cX7_turn 78 = .ok (.ireturn, 1) := by decide +kernel
theorem dX7_lastDone_0 : decode cX7_lastDone 0 = .ok (.aload_n 0, 1) := by decide +kernel
theorem dX7_lastDone_1 : decode cX7_lastDone 1 = .ok (.getfield 38, 3) := by decide +kernel
theorem dX7_lastDone_4 : decode cX7_lastDone 4 = .ok (.ifCond .le 17, 3) := by decide +kernel
theorem dX7_lastDone_7 : decode cX7_lastDone 7 = .ok (.aload_n 0, 1) := by decide +kernel
theorem dX7_lastDone_8 : decode cX7_lastDone 8 = .ok (.getfield 22, 3) := by decide +kernel
theorem dX7_lastDone_11 : decode cX7_lastDone 11 = .ok (.aload_n 0, 1) := by decide +kernel
theorem dX7_lastDone_12 : decode cX7_lastDone 12 = .ok (.getfield 38, 3) := by decide +kernel
theorem dX7_lastDone_15 : decode cX7_lastDone 15 = .ok (.iconst 1, 1) := by decide +kernel
theorem dX7_lastDone_16 : decode cX7_lastDone 16 = .ok (.isub, 1) := by decide +kernel
theorem dX7_lastDone_17 : decode cX7_lastDone 17 = .ok (.iaload, 1) := by decide +kernel
theorem dX7_lastDone_18 : decode cX7_lastDone 18 = .ok (.goto 4, 3) := by decide +kernel
theorem dX7_lastDone_21 : decode cX7_lastDone 21 = .ok (.iconst (-1), 1) := by decide +kernel
theorem dX7_lastDone_22 : decode cX7_lastDone 22 = .ok (.ireturn, 1) := by decide +kernel
theorem dX7_lateSum_0 : decode cX7_lateSum 0 = .ok (.aload_n 0, 1) := by decide +kernel
theorem dX7_lateSum_1 : decode cX7_lateSum 1 = .ok (.getfield 38, 3) := by decide +kernel
theorem dX7_lateSum_4 : decode cX7_lateSum 4 = .ok (.ifCond .le 17, 3) := by decide +kernel
theorem dX7_lateSum_7 : decode cX7_lateSum 7 = .ok (.aload_n 0, 1) := by decide +kernel
theorem dX7_lateSum_8 : decode cX7_lateSum 8 = .ok (.getfield 25, 3) := by decide +kernel
theorem dX7_lateSum_11 : decode cX7_lateSum 11 = .ok (.aload_n 0, 1) := by decide +kernel
theorem dX7_lateSum_12 : decode cX7_lateSum 12 = .ok (.getfield 38, 3) := by decide +kernel
theorem dX7_lateSum_15 : decode cX7_lateSum 15 = .ok (.iconst 1, 1) := by decide +kernel
theorem dX7_lateSum_16 : decode cX7_lateSum 16 = .ok (.isub, 1) := by decide +kernel
theorem dX7_lateSum_17 : decode cX7_lateSum 17 = .ok (.iaload, 1) := by decide +kernel
theorem dX7_lateSum_18 : decode cX7_lateSum 18 = .ok (.goto 4, 3) := by decide +kernel
theorem dX7_lateSum_21 : decode cX7_lateSum 21 = .ok (.iconst 0, 1) := by decide +kernel
theorem dX7_lateSum_22 : decode cX7_lateSum 22 = .ok (.ireturn, 1) := by decide +kernel
theorem dX7_keepBest_0 : decode cX7_keepBest 0 = .ok (.aload_n 0, 1) := by decide +kernel
theorem dX7_keepBest_1 : decode cX7_keepBest 1 = .ok (.getfield 18, 3) := by decide +kernel
theorem dX7_keepBest_4 : decode cX7_keepBest 4 = .ok (.iconst 0, 1) := by decide +kernel
theorem dX7_keepBest_5 : decode cX7_keepBest 5 = .ok (.aload_n 0, 1) := by decide +kernel
theorem dX7_keepBest_6 : decode cX7_keepBest 6 = .ok (.getfield 28, 3) := by decide +kernel
theorem dX7_keepBest_9 : decode cX7_keepBest 9 = .ok (.iconst 0, 1) := by decide +kernel
theorem dX7_keepBest_10 : decode cX7_keepBest 10 = .ok (.bipush 6, 2) := by decide +kernel
theorem dX7_keepBest_12 : decode cX7_keepBest 12 = .ok (.invokestatic 93, 3) := by decide +kernel
theorem dX7_keepBest_15 : decode cX7_keepBest 15 = .ok (.return_, 1) := by decide +kernel
theorem dX7_most_0 : decode cX7_most 0 = .ok (.iconst 0, 1) := by decide +kernel
theorem dX7_most_1 : decode cX7_most 1 = .ok (.istore_n 1, 1) := by decide +kernel
theorem dX7_most_2 : decode cX7_most 2 = .ok (.iconst 1, 1) := by decide +kernel
theorem dX7_most_3 : decode cX7_most 3 = .ok (.istore_n 2, 1) := by decide +kernel
theorem dX7_most_4 : decode cX7_most 4 = .ok (.iconst 0, 1) := by decide +kernel
theorem dX7_most_5 : decode cX7_most 5 = .ok (.istore_n 3, 1) := by decide +kernel
theorem dX7_most_6 : decode cX7_most 6 = .ok (.iload_n 3, 1) := by decide +kernel
theorem dX7_most_7 : decode cX7_most 7 = .ok (.sipush 1957, 3) := by decide +kernel
theorem dX7_most_10 : decode cX7_most 10 = .ok (.if_icmp .ge 51, 3) := by decide +kernel
theorem dX7_most_13 : decode cX7_most 13 = .ok (.aload_n 0, 1) := by decide +kernel
theorem dX7_most_14 : decode cX7_most 14 = .ok (.iload_n 2, 1) := by decide +kernel
theorem dX7_most_15 : decode cX7_most 15 = .ok (.invokevirtual 99, 3) := by decide +kernel
theorem dX7_most_18 : decode cX7_most 18 = .ok (.ifCond .eq 43, 3) := by decide +kernel
theorem dX7_most_21 : decode cX7_most 21 = .ok (.aload_n 0, 1) := by decide +kernel
theorem dX7_most_22 : decode cX7_most 22 = .ok (.invokevirtual 76, 3) := by decide +kernel
theorem dX7_most_25 : decode cX7_most 25 = .ok (.ifCond .ne 7, 3) := by decide +kernel
theorem dX7_most_28 : decode cX7_most 28 = .ok (.iconst 1, 1) := by decide +kernel
theorem dX7_most_29 : decode cX7_most 29 = .ok (.goto 4, 3) := by decide +kernel
theorem dX7_most_32 : decode cX7_most 32 = .ok (.iconst 0, 1) := by decide +kernel
theorem dX7_most_33 : decode cX7_most 33 = .ok (.istore_n 2, 1) := by decide +kernel
theorem dX7_most_34 : decode cX7_most 34 = .ok (.iload_n 2, 1) := by decide +kernel
theorem dX7_most_35 : decode cX7_most 35 = .ok (.ifCond .eq 20, 3) := by decide +kernel
theorem dX7_most_38 : decode cX7_most 38 = .ok (.aload_n 0, 1) := by decide +kernel
theorem dX7_most_39 : decode cX7_most 39 = .ok (.getfield 38, 3) := by decide +kernel
theorem dX7_most_42 : decode cX7_most 42 = .ok (.iload_n 1, 1) := by decide +kernel
theorem dX7_most_43 : decode cX7_most 43 = .ok (.if_icmp .le 12, 3) := by decide +kernel
theorem dX7_most_46 : decode cX7_most 46 = .ok (.aload_n 0, 1) := by decide +kernel
theorem dX7_most_47 : decode cX7_most 47 = .ok (.getfield 38, 3) := by decide +kernel
theorem dX7_most_50 : decode cX7_most 50 = .ok (.istore_n 1, 1) := by decide +kernel
theorem dX7_most_51 : decode cX7_most 51 = .ok (.aload_n 0, 1) := by decide +kernel
theorem dX7_most_52 : decode cX7_most 52 = .ok (.invokevirtual 103, 3) := by decide +kernel
theorem dX7_most_55 : decode cX7_most 55 = .ok (.iinc 3 1, 3) := by decide +kernel
theorem dX7_most_58 : decode cX7_most 58 = .ok (.goto (-52), 3) := by decide +kernel
theorem dX7_most_61 : decode cX7_most 61 = .ok (.iload_n 1, 1) := by decide +kernel
theorem dX7_most_62 : decode cX7_most 62 = .ok (.ireturn, 1) := by decide +kernel
theorem dX7_soonest_0 : decode cX7_soonest 0 = .ok (.iload_n 1, 1) := by decide +kernel
theorem dX7_soonest_1 : decode cX7_soonest 1 = .ok (.istore_n 2, 1) := by decide +kernel
theorem dX7_soonest_2 : decode cX7_soonest 2 = .ok (.iconst 1, 1) := by decide +kernel
theorem dX7_soonest_3 : decode cX7_soonest 3 = .ok (.istore_n 3, 1) := by decide +kernel
theorem dX7_soonest_4 : decode cX7_soonest 4 = .ok (.iconst 0, 1) := by decide +kernel
theorem dX7_soonest_5 : decode cX7_soonest 5 = .ok (.istore 4, 2) := by decide +kernel
theorem dX7_soonest_7 : decode cX7_soonest 7 = .ok (.iload 4, 2) := by decide +kernel
theorem dX7_soonest_9 : decode cX7_soonest 9 = .ok (.sipush 1957, 3) := by decide +kernel
theorem dX7_soonest_12 : decode cX7_soonest 12 = .ok (.if_icmp .ge 65, 3) := by decide +kernel
theorem dX7_soonest_15 : decode cX7_soonest 15 = .ok (.aload_n 0, 1) := by decide +kernel
theorem dX7_soonest_16 : decode cX7_soonest 16 = .ok (.iload_n 3, 1) := by decide +kernel
theorem dX7_soonest_17 : decode cX7_soonest 17 = .ok (.invokevirtual 99, 3) := by decide +kernel
theorem dX7_soonest_20 : decode cX7_soonest 20 = .ok (.ifCond .eq 57, 3) := by decide +kernel
theorem dX7_soonest_23 : decode cX7_soonest 23 = .ok (.aload_n 0, 1) := by decide +kernel
theorem dX7_soonest_24 : decode cX7_soonest 24 = .ok (.invokevirtual 64, 3) := by decide +kernel
theorem dX7_soonest_27 : decode cX7_soonest 27 = .ok (.aload_n 0, 1) := by decide +kernel
theorem dX7_soonest_28 : decode cX7_soonest 28 = .ok (.getfield 44, 3) := by decide +kernel
theorem dX7_soonest_31 : decode cX7_soonest 31 = .ok (.iadd, 1) := by decide +kernel
theorem dX7_soonest_32 : decode cX7_soonest 32 = .ok (.istore 5, 2) := by decide +kernel
theorem dX7_soonest_34 : decode cX7_soonest 34 = .ok (.iload 5, 2) := by decide +kernel
theorem dX7_soonest_36 : decode cX7_soonest 36 = .ok (.iload_n 2, 1) := by decide +kernel
theorem dX7_soonest_37 : decode cX7_soonest 37 = .ok (.if_icmp .ge 7, 3) := by decide +kernel
theorem dX7_soonest_40 : decode cX7_soonest 40 = .ok (.iconst 1, 1) := by decide +kernel
theorem dX7_soonest_41 : decode cX7_soonest 41 = .ok (.goto 4, 3) := by decide +kernel
theorem dX7_soonest_44 : decode cX7_soonest 44 = .ok (.iconst 0, 1) := by decide +kernel
theorem dX7_soonest_45 : decode cX7_soonest 45 = .ok (.istore_n 3, 1) := by decide +kernel
theorem dX7_soonest_46 : decode cX7_soonest 46 = .ok (.iload_n 3, 1) := by decide +kernel
theorem dX7_soonest_47 : decode cX7_soonest 47 = .ok (.ifCond .eq 24, 3) := by decide +kernel
theorem dX7_soonest_50 : decode cX7_soonest 50 = .ok (.aload_n 0, 1) := by decide +kernel
theorem dX7_soonest_51 : decode cX7_soonest 51 = .ok (.getfield 38, 3) := by decide +kernel
theorem dX7_soonest_54 : decode cX7_soonest 54 = .ok (.aload_n 0, 1) := by decide +kernel
theorem dX7_soonest_55 : decode cX7_soonest 55 = .ok (.getfield 12, 3) := by decide +kernel
theorem dX7_soonest_58 : decode cX7_soonest 58 = .ok (.getfield 47, 3) := by decide +kernel
theorem dX7_soonest_61 : decode cX7_soonest 61 = .ok (.if_icmp .ne 10, 3) := by decide +kernel
theorem dX7_soonest_64 : decode cX7_soonest 64 = .ok (.iload 5, 2) := by decide +kernel
theorem dX7_soonest_66 : decode cX7_soonest 66 = .ok (.istore_n 2, 1) := by decide +kernel
theorem dX7_soonest_67 : decode cX7_soonest 67 = .ok (.aload_n 0, 1) := by decide +kernel
theorem dX7_soonest_68 : decode cX7_soonest 68 = .ok (.invokevirtual 103, 3) := by decide +kernel
theorem dX7_soonest_71 : decode cX7_soonest 71 = .ok (.iinc 4 1, 3) := by decide +kernel
theorem dX7_soonest_74 : decode cX7_soonest 74 = .ok (.goto (-67), 3) := by decide +kernel
theorem dX7_soonest_77 : decode cX7_soonest 77 = .ok (.iload_n 2, 1) := by decide +kernel
theorem dX7_soonest_78 : decode cX7_soonest 78 = .ok (.ireturn, 1) := by decide +kernel
theorem dX7_leastLate_0 : decode cX7_leastLate 0 = .ok (.ldc 106, 2) := by decide +kernel
theorem dX7_leastLate_2 : decode cX7_leastLate 2 = .ok (.istore_n 1, 1) := by decide +kernel
theorem dX7_leastLate_3 : decode cX7_leastLate 3 = .ok (.iconst 1, 1) := by decide +kernel
theorem dX7_leastLate_4 : decode cX7_leastLate 4 = .ok (.istore_n 2, 1) := by decide +kernel
theorem dX7_leastLate_5 : decode cX7_leastLate 5 = .ok (.iconst 0, 1) := by decide +kernel
theorem dX7_leastLate_6 : decode cX7_leastLate 6 = .ok (.istore_n 3, 1) := by decide +kernel
theorem dX7_leastLate_7 : decode cX7_leastLate 7 = .ok (.iload_n 3, 1) := by decide +kernel
theorem dX7_leastLate_8 : decode cX7_leastLate 8 = .ok (.sipush 1957, 3) := by decide +kernel
theorem dX7_leastLate_11 : decode cX7_leastLate 11 = .ok (.if_icmp .ge 54, 3) := by decide +kernel
theorem dX7_leastLate_14 : decode cX7_leastLate 14 = .ok (.aload_n 0, 1) := by decide +kernel
theorem dX7_leastLate_15 : decode cX7_leastLate 15 = .ok (.iload_n 2, 1) := by decide +kernel
theorem dX7_leastLate_16 : decode cX7_leastLate 16 = .ok (.invokevirtual 99, 3) := by decide +kernel
theorem dX7_leastLate_19 : decode cX7_leastLate 19 = .ok (.ifCond .eq 46, 3) := by decide +kernel
theorem dX7_leastLate_22 : decode cX7_leastLate 22 = .ok (.aload_n 0, 1) := by decide +kernel
theorem dX7_leastLate_23 : decode cX7_leastLate 23 = .ok (.invokevirtual 76, 3) := by decide +kernel
theorem dX7_leastLate_26 : decode cX7_leastLate 26 = .ok (.iload_n 1, 1) := by decide +kernel
theorem dX7_leastLate_27 : decode cX7_leastLate 27 = .ok (.if_icmp .ge 7, 3) := by decide +kernel
theorem dX7_leastLate_30 : decode cX7_leastLate 30 = .ok (.iconst 1, 1) := by decide +kernel
theorem dX7_leastLate_31 : decode cX7_leastLate 31 = .ok (.goto 4, 3) := by decide +kernel
theorem dX7_leastLate_34 : decode cX7_leastLate 34 = .ok (.iconst 0, 1) := by decide +kernel
theorem dX7_leastLate_35 : decode cX7_leastLate 35 = .ok (.istore_n 2, 1) := by decide +kernel
theorem dX7_leastLate_36 : decode cX7_leastLate 36 = .ok (.iload_n 2, 1) := by decide +kernel
theorem dX7_leastLate_37 : decode cX7_leastLate 37 = .ok (.ifCond .eq 22, 3) := by decide +kernel
theorem dX7_leastLate_40 : decode cX7_leastLate 40 = .ok (.aload_n 0, 1) := by decide +kernel
theorem dX7_leastLate_41 : decode cX7_leastLate 41 = .ok (.getfield 38, 3) := by decide +kernel
theorem dX7_leastLate_44 : decode cX7_leastLate 44 = .ok (.aload_n 0, 1) := by decide +kernel
theorem dX7_leastLate_45 : decode cX7_leastLate 45 = .ok (.getfield 12, 3) := by decide +kernel
theorem dX7_leastLate_48 : decode cX7_leastLate 48 = .ok (.getfield 47, 3) := by decide +kernel
theorem dX7_leastLate_51 : decode cX7_leastLate 51 = .ok (.if_icmp .ne 8, 3) := by decide +kernel
theorem dX7_leastLate_54 : decode cX7_leastLate 54 = .ok (.aload_n 0, 1) := by decide +kernel
theorem dX7_leastLate_55 : decode cX7_leastLate 55 = .ok (.invokevirtual 76, 3) := by decide +kernel
theorem dX7_leastLate_58 : decode cX7_leastLate 58 = .ok (.istore_n 1, 1) := by decide +kernel
theorem dX7_leastLate_59 : decode cX7_leastLate 59 = .ok (.iinc 3 1, 3) := by decide +kernel
theorem dX7_leastLate_62 : decode cX7_leastLate 62 = .ok (.goto (-55), 3) := by decide +kernel
theorem dX7_leastLate_65 : decode cX7_leastLate 65 = .ok (.iload_n 1, 1) := by decide +kernel
theorem dX7_leastLate_66 : decode cX7_leastLate 66 = .ok (.ireturn, 1) := by decide +kernel
theorem dX7_lateByDue_0 : decode cX7_lateByDue 0 = .ok (.iconst 0, 1) := by decide +kernel
theorem dX7_lateByDue_1 : decode cX7_lateByDue 1 = .ok (.istore_n 1, 1) := by decide +kernel
theorem dX7_lateByDue_2 : decode cX7_lateByDue 2 = .ok (.iload_n 1, 1) := by decide +kernel
theorem dX7_lateByDue_3 : decode cX7_lateByDue 3 = .ok (.aload_n 0, 1) := by decide +kernel
theorem dX7_lateByDue_4 : decode cX7_lateByDue 4 = .ok (.getfield 12, 3) := by decide +kernel
theorem dX7_lateByDue_7 : decode cX7_lateByDue 7 = .ok (.getfield 47, 3) := by decide +kernel
theorem dX7_lateByDue_10 : decode cX7_lateByDue 10 = .ok (.if_icmp .ge 87, 3) := by decide +kernel
theorem dX7_lateByDue_13 : decode cX7_lateByDue 13 = .ok (.iconst (-1), 1) := by decide +kernel
theorem dX7_lateByDue_14 : decode cX7_lateByDue 14 = .ok (.istore_n 2, 1) := by decide +kernel
theorem dX7_lateByDue_15 : decode cX7_lateByDue 15 = .ok (.iconst 0, 1) := by decide +kernel
theorem dX7_lateByDue_16 : decode cX7_lateByDue 16 = .ok (.istore_n 3, 1) := by decide +kernel
theorem dX7_lateByDue_17 : decode cX7_lateByDue 17 = .ok (.iload_n 3, 1) := by decide +kernel
theorem dX7_lateByDue_18 : decode cX7_lateByDue 18 = .ok (.aload_n 0, 1) := by decide +kernel
theorem dX7_lateByDue_19 : decode cX7_lateByDue 19 = .ok (.getfield 12, 3) := by decide +kernel
theorem dX7_lateByDue_22 : decode cX7_lateByDue 22 = .ok (.getfield 47, 3) := by decide +kernel
theorem dX7_lateByDue_25 : decode cX7_lateByDue 25 = .ok (.if_icmp .ge 60, 3) := by decide +kernel
theorem dX7_lateByDue_28 : decode cX7_lateByDue 28 = .ok (.aload_n 0, 1) := by decide +kernel
theorem dX7_lateByDue_29 : decode cX7_lateByDue 29 = .ok (.getfield 41, 3) := by decide +kernel
theorem dX7_lateByDue_32 : decode cX7_lateByDue 32 = .ok (.iload_n 3, 1) := by decide +kernel
theorem dX7_lateByDue_33 : decode cX7_lateByDue 33 = .ok (.ishr, 1) := by decide +kernel
theorem dX7_lateByDue_34 : decode cX7_lateByDue 34 = .ok (.iconst 1, 1) := by decide +kernel
theorem dX7_lateByDue_35 : decode cX7_lateByDue 35 = .ok (.iand, 1) := by decide +kernel
theorem dX7_lateByDue_36 : decode cX7_lateByDue 36 = .ok (.ifCond .ne 7, 3) := by decide +kernel
theorem dX7_lateByDue_39 : decode cX7_lateByDue 39 = .ok (.iconst 1, 1) := by decide +kernel
theorem dX7_lateByDue_40 : decode cX7_lateByDue 40 = .ok (.goto 4, 3) := by decide +kernel
theorem dX7_lateByDue_43 : decode cX7_lateByDue 43 = .ok (.iconst 0, 1) := by decide +kernel
theorem dX7_lateByDue_44 : decode cX7_lateByDue 44 = .ok (.istore 4, 2) := by decide +kernel
theorem dX7_lateByDue_46 : decode cX7_lateByDue 46 = .ok (.iload 4, 2) := by decide +kernel
theorem dX7_lateByDue_48 : decode cX7_lateByDue 48 = .ok (.ifCond .eq 31, 3) := by decide +kernel
theorem dX7_lateByDue_51 : decode cX7_lateByDue 51 = .ok (.iload_n 2, 1) := by decide +kernel
theorem dX7_lateByDue_52 : decode cX7_lateByDue 52 = .ok (.iconst (-1), 1) := by decide +kernel
theorem dX7_lateByDue_53 : decode cX7_lateByDue 53 = .ok (.if_icmp .eq 24, 3) := by decide +kernel
theorem dX7_lateByDue_56 : decode cX7_lateByDue 56 = .ok (.aload_n 0, 1) := by decide +kernel
theorem dX7_lateByDue_57 : decode cX7_lateByDue 57 = .ok (.getfield 12, 3) := by decide +kernel
theorem dX7_lateByDue_60 : decode cX7_lateByDue 60 = .ok (.getfield 79, 3) := by decide +kernel
theorem dX7_lateByDue_63 : decode cX7_lateByDue 63 = .ok (.iload_n 3, 1) := by decide +kernel
theorem dX7_lateByDue_64 : decode cX7_lateByDue 64 = .ok (.iaload, 1) := by decide +kernel
theorem dX7_lateByDue_65 : decode cX7_lateByDue 65 = .ok (.aload_n 0, 1) := by decide +kernel
theorem dX7_lateByDue_66 : decode cX7_lateByDue 66 = .ok (.getfield 12, 3) := by decide +kernel
theorem dX7_lateByDue_69 : decode cX7_lateByDue 69 = .ok (.getfield 79, 3) := by decide +kernel
theorem dX7_lateByDue_72 : decode cX7_lateByDue 72 = .ok (.iload_n 2, 1) := by decide +kernel
theorem dX7_lateByDue_73 : decode cX7_lateByDue 73 = .ok (.iaload, 1) := by decide +kernel
theorem dX7_lateByDue_74 : decode cX7_lateByDue 74 = .ok (.if_icmp .ge 5, 3) := by decide +kernel
theorem dX7_lateByDue_77 : decode cX7_lateByDue 77 = .ok (.iload_n 3, 1) := by decide +kernel
theorem dX7_lateByDue_78 : decode cX7_lateByDue 78 = .ok (.istore_n 2, 1) := by decide +kernel
theorem dX7_lateByDue_79 : decode cX7_lateByDue 79 = .ok (.iinc 3 1, 3) := by decide +kernel
theorem dX7_lateByDue_82 : decode cX7_lateByDue 82 = .ok (.goto (-65), 3) := by decide +kernel
theorem dX7_lateByDue_85 : decode cX7_lateByDue 85 = .ok (.aload_n 0, 1) := by decide +kernel
theorem dX7_lateByDue_86 : decode cX7_lateByDue 86 = .ok (.iload_n 2, 1) := by decide +kernel
theorem dX7_lateByDue_87 : decode cX7_lateByDue 87 = .ok (.invokevirtual 90, 3) := by decide +kernel
theorem dX7_lateByDue_90 : decode cX7_lateByDue 90 = .ok (.pop, 1) := by decide +kernel
theorem dX7_lateByDue_91 : decode cX7_lateByDue 91 = .ok (.iinc 1 1, 3) := by decide +kernel
theorem dX7_lateByDue_94 : decode cX7_lateByDue 94 = .ok (.goto (-92), 3) := by decide +kernel
theorem dX7_lateByDue_97 : decode cX7_lateByDue 97 = .ok (.aload_n 0, 1) := by decide +kernel
theorem dX7_lateByDue_98 : decode cX7_lateByDue 98 = .ok (.invokevirtual 76, 3) := by decide +kernel
theorem dX7_lateByDue_101 : decode cX7_lateByDue 101 = .ok (.ireturn, 1) := by decide +kernel
theorem dX8_init_0 : decode cX8_init 0 = .ok (.aload_n 0, 1) := by decide +kernel
theorem dX8_init_1 : decode cX8_init 1 = .ok (.invokespecial 3, 3) := by decide +kernel
theorem dX8_init_4 : decode cX8_init 4 = .ok (.aload_n 0, 1) := by decide +kernel
theorem dX8_init_5 : decode cX8_init 5 = .ok (.new 9, 3) := by decide +kernel
theorem dX8_init_8 : decode cX8_init 8 = .ok (.dup, 1) := by decide +kernel
theorem dX8_init_9 : decode cX8_init 9 = .ok (.invokespecial 11, 3) := by decide +kernel
theorem dX8_init_12 : decode cX8_init 12 = .ok (.putfield 12, 3) := by decide +kernel
theorem dX8_init_15 : decode cX8_init 15 = .ok (.aload_n 0, 1) := by decide +kernel
theorem dX8_init_16 : decode cX8_init 16 = .ok (.bipush 9, 2) := by decide +kernel
theorem dX8_init_18 : decode cX8_init 18 = .ok (.newarray .int, 2) := by decide +kernel
theorem dX8_init_20 : decode cX8_init 20 = .ok (.putfield 18, 3) := by decide +kernel
theorem dX8_init_23 : decode cX8_init 23 = .ok (.aload_n 0, 1) := by decide +kernel
theorem dX8_init_24 : decode cX8_init 24 = .ok (.bipush 9, 2) := by decide +kernel
theorem dX8_init_26 : decode cX8_init 26 = .ok (.newarray .int, 2) := by decide +kernel
theorem dX8_init_28 : decode cX8_init 28 = .ok (.putfield 22, 3) := by decide +kernel
theorem dX8_init_31 : decode cX8_init 31 = .ok (.return_, 1) := by decide +kernel
theorem dX8_begin_0 : decode cX8_begin 0 = .ok (.aload_n 0, 1) := by decide +kernel
theorem dX8_begin_1 : decode cX8_begin 1 = .ok (.aload_n 1, 1) := by decide +kernel
theorem dX8_begin_2 : decode cX8_begin 2 = .ok (.putfield 12, 3) := by decide +kernel
theorem dX8_begin_5 : decode cX8_begin 5 = .ok (.aload_n 0, 1) := by decide +kernel
theorem dX8_begin_6 : decode cX8_begin 6 = .ok (.iconst 0, 1) := by decide +kernel
theorem dX8_begin_7 : decode cX8_begin 7 = .ok (.putfield 25, 3) := by decide +kernel
theorem dX8_begin_10 : decode cX8_begin 10 = .ok (.aload_n 0, 1) := by decide +kernel
theorem dX8_begin_11 : decode cX8_begin 11 = .ok (.aload_n 1, 1) := by decide +kernel
theorem dX8_begin_12 : decode cX8_begin 12 = .ok (.getfield 29, 3) := by decide +kernel
theorem dX8_begin_15 : decode cX8_begin 15 = .ok (.iconst 0, 1) := by decide +kernel
theorem dX8_begin_16 : decode cX8_begin 16 = .ok (.iaload, 1) := by decide +kernel
theorem dX8_begin_17 : decode cX8_begin 17 = .ok (.putfield 32, 3) := by decide +kernel
theorem dX8_begin_20 : decode cX8_begin 20 = .ok (.aload_n 0, 1) := by decide +kernel
theorem dX8_begin_21 : decode cX8_begin 21 = .ok (.iconst 0, 1) := by decide +kernel
theorem dX8_begin_22 : decode cX8_begin 22 = .ok (.putfield 35, 3) := by decide +kernel
theorem dX8_begin_25 : decode cX8_begin 25 = .ok (.aload_n 0, 1) := by decide +kernel
theorem dX8_begin_26 : decode cX8_begin 26 = .ok (.iconst 0, 1) := by decide +kernel
theorem dX8_begin_27 : decode cX8_begin 27 = .ok (.putfield 38, 3) := by decide +kernel
theorem dX8_begin_30 : decode cX8_begin 30 = .ok (.aload_n 0, 1) := by decide +kernel
theorem dX8_begin_31 : decode cX8_begin 31 = .ok (.iconst 0, 1) := by decide +kernel
theorem dX8_begin_32 : decode cX8_begin 32 = .ok (.putfield 41, 3) := by decide +kernel
theorem dX8_begin_35 : decode cX8_begin 35 = .ok (.aload_n 0, 1) := by decide +kernel
theorem dX8_begin_36 : decode cX8_begin 36 = .ok (.getfield 18, 3) := by decide +kernel
theorem dX8_begin_39 : decode cX8_begin 39 = .ok (.iconst 0, 1) := by decide +kernel
theorem dX8_begin_40 : decode cX8_begin 40 = .ok (.invokestatic 44, 3) := by decide +kernel
theorem dX8_begin_43 : decode cX8_begin 43 = .ok (.aload_n 0, 1) := by decide +kernel
theorem dX8_begin_44 : decode cX8_begin 44 = .ok (.getfield 22, 3) := by decide +kernel
theorem dX8_begin_47 : decode cX8_begin 47 = .ok (.iconst 0, 1) := by decide +kernel
theorem dX8_begin_48 : decode cX8_begin 48 = .ok (.invokestatic 44, 3) := by decide +kernel
theorem dX8_begin_51 : decode cX8_begin 51 = .ok (.return_, 1) := by decide +kernel
theorem dX8_lead_0 : decode cX8_lead 0 = .ok (.aload_n 0, 1) := by decide +kernel
theorem dX8_lead_1 : decode cX8_lead 1 = .ok (.aload_n 1, 1) := by decide +kernel
theorem dX8_lead_2 : decode cX8_lead 2 = .ok (.invokevirtual 50, 3) := by decide +kernel
theorem dX8_lead_5 : decode cX8_lead 5 = .ok (.iconst 0, 1) := by decide +kernel
theorem dX8_lead_6 : decode cX8_lead 6 = .ok (.istore 4, 2) := by decide +kernel
theorem dX8_lead_8 : decode cX8_lead 8 = .ok (.iload 4, 2) := by decide +kernel
theorem dX8_lead_10 : decode cX8_lead 10 = .ok (.iload_n 3, 1) := by decide +kernel
theorem dX8_lead_11 : decode cX8_lead 11 = .ok (.if_icmp .ge 42, 3) := by decide +kernel
theorem dX8_lead_14 : decode cX8_lead 14 = .ok (.iload 4, 2) := by decide +kernel
theorem dX8_lead_16 : decode cX8_lead 16 = .ok (.aload_n 2, 1) := by decide +kernel
theorem dX8_lead_17 : decode cX8_lead 17 = .ok (.getfield 54, 3) := by decide +kernel
theorem dX8_lead_20 : decode cX8_lead 20 = .ok (.if_icmp .ge 33, 3) := by decide +kernel
theorem dX8_lead_23 : decode cX8_lead 23 = .ok (.aload_n 0, 1) := by decide +kernel
theorem dX8_lead_24 : decode cX8_lead 24 = .ok (.aload_n 2, 1) := by decide +kernel
theorem dX8_lead_25 : decode cX8_lead 25 = .ok (.getfield 59, 3) := by decide +kernel
theorem dX8_lead_28 : decode cX8_lead 28 = .ok (.iload 4, 2) := by decide +kernel
theorem dX8_lead_30 : decode cX8_lead 30 = .ok (.iaload, 1) := by decide +kernel
theorem dX8_lead_31 : decode cX8_lead 31 = .ok (.aload_n 2, 1) := by decide +kernel
theorem dX8_lead_32 : decode cX8_lead 32 = .ok (.getfield 62, 3) := by decide +kernel
theorem dX8_lead_35 : decode cX8_lead 35 = .ok (.iload 4, 2) := by decide +kernel
theorem dX8_lead_37 : decode cX8_lead 37 = .ok (.iaload, 1) := by decide +kernel
theorem dX8_lead_38 : decode cX8_lead 38 = .ok (.invokevirtual 65, 3) := by decide +kernel
theorem dX8_lead_41 : decode cX8_lead 41 = .ok (.ifCond .ne 6, 3) := by decide +kernel
theorem dX8_lead_44 : decode cX8_lead 44 = .ok (.iload 4, 2) := by decide +kernel
theorem dX8_lead_46 : decode cX8_lead 46 = .ok (.ireturn, 1) := by decide +kernel
theorem dX8_lead_47 : decode cX8_lead 47 = .ok (.iinc 4 1, 3) := by decide +kernel
theorem dX8_lead_50 : decode cX8_lead 50 = .ok (.goto (-42), 3) := by decide +kernel
theorem dX8_lead_53 : decode cX8_lead 53 = .ok (.iload_n 3, 1) := by decide +kernel
theorem dX8_lead_54 : decode cX8_lead 54 = .ok (.aload_n 2, 1) := by decide +kernel
theorem dX8_lead_55 : decode cX8_lead 55 = .ok (.getfield 54, 3) := by decide +kernel
theorem dX8_lead_58 : decode cX8_lead 58 = .ok (.invokestatic 69, 3) := by decide +kernel
theorem dX8_lead_61 : decode cX8_lead 61 = .ok (.ireturn, 1) := by decide +kernel
theorem dX8_draw_0 : decode cX8_draw 0 = .ok (.aload_n 0, 1) := by decide +kernel
theorem dX8_draw_1 : decode cX8_draw 1 = .ok (.aload_n 1, 1) := by decide +kernel
theorem dX8_draw_2 : decode cX8_draw 2 = .ok (.invokevirtual 50, 3) := by decide +kernel
theorem dX8_draw_5 : decode cX8_draw 5 = .ok (.aload_n 0, 1) := by decide +kernel
theorem dX8_draw_6 : decode cX8_draw 6 = .ok (.iload_n 2, 1) := by decide +kernel
theorem dX8_draw_7 : decode cX8_draw 7 = .ok (.putfield 75, 3) := by decide +kernel
theorem dX8_draw_10 : decode cX8_draw 10 = .ok (.iconst 0, 1) := by decide +kernel
theorem dX8_draw_11 : decode cX8_draw 11 = .ok (.istore 4, 2) := by decide +kernel
theorem dX8_draw_13 : decode cX8_draw 13 = .ok (.iload 4, 2) := by decide +kernel
theorem dX8_draw_15 : decode cX8_draw 15 = .ok (.iload_n 3, 1) := by decide +kernel
theorem dX8_draw_16 : decode cX8_draw 16 = .ok (.if_icmp .ge 89, 3) := by decide +kernel
theorem dX8_draw_19 : decode cX8_draw 19 = .ok (.aload_n 0, 1) := by decide +kernel
theorem dX8_draw_20 : decode cX8_draw 20 = .ok (.bipush 10, 2) := by decide +kernel
theorem dX8_draw_22 : decode cX8_draw 22 = .ok (.invokevirtual 78, 3) := by decide +kernel
theorem dX8_draw_25 : decode cX8_draw 25 = .ok (.istore 5, 2) := by decide +kernel
theorem dX8_draw_27 : decode cX8_draw 27 = .ok (.iload 5, 2) := by decide +kernel
theorem dX8_draw_29 : decode cX8_draw 29 = .ok (.bipush 6, 2) := by decide +kernel
theorem dX8_draw_31 : decode cX8_draw 31 = .ok (.if_icmp .gt 38, 3) := by decide +kernel
theorem dX8_draw_34 : decode cX8_draw 34 = .ok (.aload_n 1, 1) := by decide +kernel
theorem dX8_draw_35 : decode cX8_draw 35 = .ok (.getfield 82, 3) := by decide +kernel
theorem dX8_draw_38 : decode cX8_draw 38 = .ok (.ifCond .le 61, 3) := by decide +kernel
theorem dX8_draw_41 : decode cX8_draw 41 = .ok (.aload_n 0, 1) := by decide +kernel
theorem dX8_draw_42 : decode cX8_draw 42 = .ok (.iload 5, 2) := by decide +kernel
theorem dX8_draw_44 : decode cX8_draw 44 = .ok (.bipush 6, 2) := by decide +kernel
theorem dX8_draw_46 : decode cX8_draw 46 = .ok (.if_icmp .ne 7, 3) := by decide +kernel
theorem dX8_draw_49 : decode cX8_draw 49 = .ok (.iconst 1, 1) := by decide +kernel
theorem dX8_draw_50 : decode cX8_draw 50 = .ok (.goto 4, 3) := by decide +kernel
theorem dX8_draw_53 : decode cX8_draw 53 = .ok (.iconst 0, 1) := by decide +kernel
theorem dX8_draw_54 : decode cX8_draw 54 = .ok (.aload_n 0, 1) := by decide +kernel
theorem dX8_draw_55 : decode cX8_draw 55 = .ok (.aload_n 1, 1) := by decide +kernel
theorem dX8_draw_56 : decode cX8_draw 56 = .ok (.getfield 82, 3) := by decide +kernel
theorem dX8_draw_59 : decode cX8_draw 59 = .ok (.invokevirtual 78, 3) := by decide +kernel
theorem dX8_draw_62 : decode cX8_draw 62 = .ok (.invokevirtual 65, 3) := by decide +kernel
theorem dX8_draw_65 : decode cX8_draw 65 = .ok (.pop, 1) := by decide +kernel
theorem dX8_draw_66 : decode cX8_draw 66 = .ok (.goto 33, 3) := by decide +kernel
theorem dX8_draw_69 : decode cX8_draw 69 = .ok (.iload 5, 2) := by decide +kernel
theorem dX8_draw_71 : decode cX8_draw 71 = .ok (.bipush 7, 2) := by decide +kernel
theorem dX8_draw_73 : decode cX8_draw 73 = .ok (.if_icmp .ne 19, 3) := by decide +kernel
theorem dX8_draw_76 : decode cX8_draw 76 = .ok (.aload_n 0, 1) := by decide +kernel
theorem dX8_draw_77 : decode cX8_draw 77 = .ok (.iconst 3, 1) := by decide +kernel
theorem dX8_draw_78 : decode cX8_draw 78 = .ok (.iconst 1, 1) := by decide +kernel
theorem dX8_draw_79 : decode cX8_draw 79 = .ok (.aload_n 0, 1) := by decide +kernel
theorem dX8_draw_80 : decode cX8_draw 80 = .ok (.iconst 3, 1) := by decide +kernel
theorem dX8_draw_81 : decode cX8_draw 81 = .ok (.invokevirtual 78, 3) := by decide +kernel
theorem dX8_draw_84 : decode cX8_draw 84 = .ok (.iadd, 1) := by decide +kernel
theorem dX8_draw_85 : decode cX8_draw 85 = .ok (.invokevirtual 65, 3) := by decide +kernel
theorem dX8_draw_88 : decode cX8_draw 88 = .ok (.pop, 1) := by decide +kernel
theorem dX8_draw_89 : decode cX8_draw 89 = .ok (.goto 10, 3) := by decide +kernel
theorem dX8_draw_92 : decode cX8_draw 92 = .ok (.aload_n 0, 1) := by decide +kernel
theorem dX8_draw_93 : decode cX8_draw 93 = .ok (.iconst 5, 1) := by decide +kernel
theorem dX8_draw_94 : decode cX8_draw 94 = .ok (.iconst (-1), 1) := by decide +kernel
theorem dX8_draw_95 : decode cX8_draw 95 = .ok (.invokevirtual 65, 3) := by decide +kernel
theorem dX8_draw_98 : decode cX8_draw 98 = .ok (.pop, 1) := by decide +kernel
theorem dX8_draw_99 : decode cX8_draw 99 = .ok (.iinc 4 1, 3) := by decide +kernel
theorem dX8_draw_102 : decode cX8_draw 102 = .ok (.goto (-89), 3) := by decide +kernel
theorem dX8_draw_105 : decode cX8_draw 105 = .ok (.return_, 1) := by decide +kernel
theorem dX8_next_0 : decode cX8_next 0 = .ok (.aload_n 0, 1) := by decide +kernel
theorem dX8_next_1 : decode cX8_next 1 = .ok (.aload_n 0, 1) := by decide +kernel
theorem dX8_next_2 : decode cX8_next 2 = .ok (.getfield 75, 3) := by decide +kernel
theorem dX8_next_5 : decode cX8_next 5 = .ok (.ldc 85, 2) := by decide +kernel
theorem dX8_next_7 : decode cX8_next 7 = .ok (.imul, 1) := by decide +kernel
theorem dX8_next_8 : decode cX8_next 8 = .ok (.sipush 12345, 3) := by decide +kernel
theorem dX8_next_11 : decode cX8_next 11 = .ok (.iadd, 1) := by decide +kernel
theorem dX8_next_12 : decode cX8_next 12 = .ok (.putfield 75, 3) := by decide +kernel
theorem dX8_next_15 : decode cX8_next 15 = .ok (.iload_n 1, 1) := by decide +kernel
theorem dX8_next_16 : decode cX8_next 16 = .ok (.iconst 1, 1) := by decide +kernel
theorem dX8_next_17 : decode cX8_next 17 = .ok (.if_icmp .ge 7, 3) := by decide +kernel
theorem dX8_next_20 : decode cX8_next 20 = .ok (.iconst 0, 1) := by decide +kernel
theorem dX8_next_21 : decode cX8_next 21 = .ok (.goto 12, 3) := by decide +kernel
theorem dX8_next_24 : decode cX8_next 24 = .ok (.aload_n 0, 1) := by decide +kernel
theorem dX8_next_25 : decode cX8_next 25 = .ok (.getfield 75, 3) := by decide +kernel
theorem dX8_next_28 : decode cX8_next 28 = .ok (.bipush 16, 2) := by decide +kernel
theorem dX8_next_30 : decode cX8_next 30 = .ok (.iushr, 1) := by decide +kernel
theorem dX8_next_31 : decode cX8_next 31 = .ok (.iload_n 1, 1) := by decide +kernel
theorem dX8_next_32 : decode cX8_next 32 = .ok (.irem, 1) := by decide +kernel
theorem dX8_next_33 : decode cX8_next 33 = .ok (.ireturn, 1) := by decide +kernel
theorem dX8_act_0 : decode cX8_act 0 = .ok (.iload_n 1, 1) := by decide +kernel
theorem dX8_act_1 : decode cX8_act 1 = .ok (.tableswitch 75 0 5 #[39, 45, 51, 57, 63, 70], 39) := by decide +kernel
theorem dX8_act_40 : decode cX8_act 40 = .ok (.aload_n 0, 1) := by decide +kernel
theorem dX8_act_41 : decode cX8_act 41 = .ok (.iload_n 2, 1) := by decide +kernel
theorem dX8_act_42 : decode cX8_act 42 = .ok (.invokevirtual 86, 3) := by decide +kernel
theorem dX8_act_45 : decode cX8_act 45 = .ok (.ireturn, 1) := by decide +kernel
theorem dX8_act_46 : decode cX8_act 46 = .ok (.aload_n 0, 1) := by decide +kernel
theorem dX8_act_47 : decode cX8_act 47 = .ok (.iload_n 2, 1) := by decide +kernel
theorem dX8_act_48 : decode cX8_act 48 = .ok (.invokevirtual 90, 3) := by decide +kernel
theorem dX8_act_51 : decode cX8_act 51 = .ok (.ireturn, 1) := by decide +kernel
theorem dX8_act_52 : decode cX8_act 52 = .ok (.aload_n 0, 1) := by decide +kernel
theorem dX8_act_53 : decode cX8_act 53 = .ok (.iload_n 2, 1) := by decide +kernel
theorem dX8_act_54 : decode cX8_act 54 = .ok (.invokevirtual 93, 3) := by decide +kernel
theorem dX8_act_57 : decode cX8_act 57 = .ok (.ireturn, 1) := by decide +kernel
theorem dX8_act_58 : decode cX8_act 58 = .ok (.aload_n 0, 1) := by decide +kernel
theorem dX8_act_59 : decode cX8_act 59 = .ok (.iload_n 2, 1) := by decide +kernel
theorem dX8_act_60 : decode cX8_act 60 = .ok (.invokevirtual 96, 3) := by decide +kernel
theorem dX8_act_63 : decode cX8_act 63 = .ok (.ireturn, 1) := by decide +kernel
theorem dX8_act_64 : decode cX8_act 64 = .ok (.aload_n 0, 1) := by decide +kernel
theorem dX8_act_65 : decode cX8_act 65 = .ok (.iload_n 2, 1) := by decide +kernel
theorem dX8_act_66 : decode cX8_act 66 = .ok (.ineg, 1) := by decide +kernel
theorem dX8_act_67 : decode cX8_act 67 = .ok (.invokevirtual 96, 3) := by decide +kernel
theorem dX8_act_70 : decode cX8_act 70 = .ok (.ireturn, 1) := by decide +kernel
theorem dX8_act_71 : decode cX8_act 71 = .ok (.aload_n 0, 1) := by decide +kernel
theorem dX8_act_72 : decode cX8_act 72 = .ok (.invokevirtual 99, 3) := by decide +kernel
theorem dX8_act_75 : decode cX8_act 75 = .ok (.ireturn, 1) := by decide +kernel
theorem dX8_act_76 : decode cX8_act 76 = .ok (.iconst 0, 1) := by decide +kernel
theorem dX8_act_77 : decode cX8_act 77 = .ok (.ireturn, 1) := by decide +kernel
theorem dX8_stitch_0 : decode cX8_stitch 0 = .ok (.aload_n 0, 1) := by decide +kernel
theorem dX8_stitch_1 : decode cX8_stitch 1 = .ok (.getfield 12, 3) := by decide +kernel
theorem dX8_stitch_4 : decode cX8_stitch 4 = .ok (.iload_n 1, 1) := by decide +kernel
theorem dX8_stitch_5 : decode cX8_stitch 5 = .ok (.invokevirtual 103, 3) := by decide +kernel
theorem dX8_stitch_8 : decode cX8_stitch 8 = .ok (.ifCond .eq 25, 3) := by decide +kernel
theorem dX8_stitch_11 : decode cX8_stitch 11 = .ok (.aload_n 0, 1) := by decide +kernel
theorem dX8_stitch_12 : decode cX8_stitch 12 = .ok (.iload_n 1, 1) := by decide +kernel
theorem dX8_stitch_13 : decode cX8_stitch 13 = .ok (.invokevirtual 106, 3) := by decide +kernel
theorem dX8_stitch_16 : decode cX8_stitch 16 = .ok (.ifCond .ne 17, 3) := by decide +kernel
theorem dX8_stitch_19 : decode cX8_stitch 19 = .ok (.aload_n 0, 1) := by decide +kernel
theorem dX8_stitch_20 : decode cX8_stitch 20 = .ok (.getfield 35, 3) := by decide +kernel
theorem dX8_stitch_23 : decode cX8_stitch 23 = .ok (.aload_n 0, 1) := by decide +kernel
theorem dX8_stitch_24 : decode cX8_stitch 24 = .ok (.getfield 12, 3) := by decide +kernel
theorem dX8_stitch_27 : decode cX8_stitch 27 = .ok (.getfield 109, 3) := by decide +kernel
theorem dX8_stitch_30 : decode cX8_stitch 30 = .ok (.if_icmp .lt 5, 3) := by decide +kernel
theorem dX8_stitch_33 : decode cX8_stitch 33 = .ok (.iconst 0, 1) := by decide +kernel
theorem dX8_stitch_34 : decode cX8_stitch 34 = .ok (.ireturn, 1) := by decide +kernel
theorem dX8_stitch_35 : decode cX8_stitch 35 = .ok (.aload_n 0, 1) := by decide +kernel
theorem dX8_stitch_36 : decode cX8_stitch 36 = .ok (.getfield 12, 3) := by decide +kernel
theorem dX8_stitch_39 : decode cX8_stitch 39 = .ok (.getfield 112, 3) := by decide +kernel
theorem dX8_stitch_42 : decode cX8_stitch 42 = .ok (.iload_n 1, 1) := by decide +kernel
theorem dX8_stitch_43 : decode cX8_stitch 43 = .ok (.iaload, 1) := by decide +kernel
theorem dX8_stitch_44 : decode cX8_stitch 44 = .ok (.aload_n 0, 1) := by decide +kernel
theorem dX8_stitch_45 : decode cX8_stitch 45 = .ok (.invokevirtual 115, 3) := by decide +kernel
theorem dX8_stitch_48 : decode cX8_stitch 48 = .ok (.iconst (-1), 1) := by decide +kernel
theorem dX8_stitch_49 : decode cX8_stitch 49 = .ok (.ixor, 1) := by decide +kernel
theorem dX8_stitch_50 : decode cX8_stitch 50 = .ok (.iand, 1) := by decide +kernel
theorem dX8_stitch_51 : decode cX8_stitch 51 = .ok (.ifCond .eq 5, 3) := by decide +kernel
theorem dX8_stitch_54 : decode cX8_stitch 54 = .ok (.iconst 0, 1) := by decide +kernel
theorem dX8_stitch_55 : decode cX8_stitch 55 = .ok (.ireturn, 1) := by decide +kernel
theorem dX8_stitch_56 : decode cX8_stitch 56 = .ok (.aload_n 0, 1) := by decide +kernel
theorem dX8_stitch_57 : decode cX8_stitch 57 = .ok (.getfield 18, 3) := by decide +kernel
theorem dX8_stitch_60 : decode cX8_stitch 60 = .ok (.iload_n 1, 1) := by decide +kernel
theorem dX8_stitch_61 : decode cX8_stitch 61 = .ok (.dup2, 1) := by decide +kernel
theorem dX8_stitch_62 : decode cX8_stitch 62 = .ok (.iaload, 1) := by decide +kernel
theorem dX8_stitch_63 : decode cX8_stitch 63 = .ok (.iconst 1, 1) := by decide +kernel
theorem dX8_stitch_64 : decode cX8_stitch 64 = .ok (.iadd, 1) := by decide +kernel
theorem dX8_stitch_65 : decode cX8_stitch 65 = .ok (.iastore, 1) := by decide +kernel
theorem dX8_stitch_66 : decode cX8_stitch 66 = .ok (.aload_n 0, 1) := by decide +kernel
theorem dX8_stitch_67 : decode cX8_stitch 67 = .ok (.dup, 1) := by decide +kernel
theorem dX8_stitch_68 : decode cX8_stitch 68 = .ok (.getfield 35, 3) := by decide +kernel
theorem dX8_stitch_71 : decode cX8_stitch 71 = .ok (.iconst 1, 1) := by decide +kernel
theorem dX8_stitch_72 : decode cX8_stitch 72 = .ok (.iadd, 1) := by decide +kernel
theorem dX8_stitch_73 : decode cX8_stitch 73 = .ok (.putfield 35, 3) := by decide +kernel
theorem dX8_stitch_76 : decode cX8_stitch 76 = .ok (.aload_n 0, 1) := by decide +kernel
theorem dX8_stitch_77 : decode cX8_stitch 77 = .ok (.iload_n 1, 1) := by decide +kernel
theorem dX8_stitch_78 : decode cX8_stitch 78 = .ok (.invokevirtual 106, 3) := by decide +kernel
theorem dX8_stitch_81 : decode cX8_stitch 81 = .ok (.ifCond .eq 13, 3) := by decide +kernel
theorem dX8_stitch_84 : decode cX8_stitch 84 = .ok (.aload_n 0, 1) := by decide +kernel
theorem dX8_stitch_85 : decode cX8_stitch 85 = .ok (.getfield 22, 3) := by decide +kernel
theorem dX8_stitch_88 : decode cX8_stitch 88 = .ok (.iload_n 1, 1) := by decide +kernel
theorem dX8_stitch_89 : decode cX8_stitch 89 = .ok (.aload_n 0, 1) := by decide +kernel
theorem dX8_stitch_90 : decode cX8_stitch 90 = .ok (.getfield 32, 3) := by decide +kernel
theorem dX8_stitch_93 : decode cX8_stitch 93 = .ok (.iastore, 1) := by decide +kernel
theorem dX8_stitch_94 : decode cX8_stitch 94 = .ok (.iconst 1, 1) := by decide +kernel
theorem dX8_stitch_95 : decode cX8_stitch 95 = .ok (.ireturn, 1) := by decide +kernel
theorem dX8_unpick_0 : decode cX8_unpick 0 = .ok (.aload_n 0, 1) := by decide +kernel
theorem dX8_unpick_1 : decode cX8_unpick 1 = .ok (.getfield 12, 3) := by decide +kernel
theorem dX8_unpick_4 : decode cX8_unpick 4 = .ok (.iload_n 1, 1) := by decide +kernel
theorem dX8_unpick_5 : decode cX8_unpick 5 = .ok (.invokevirtual 103, 3) := by decide +kernel
theorem dX8_unpick_8 : decode cX8_unpick 8 = .ok (.ifCond .eq 12, 3) := by decide +kernel
theorem dX8_unpick_11 : decode cX8_unpick 11 = .ok (.aload_n 0, 1) := by decide +kernel
theorem dX8_unpick_12 : decode cX8_unpick 12 = .ok (.getfield 18, 3) := by decide +kernel
theorem dX8_unpick_15 : decode cX8_unpick 15 = .ok (.iload_n 1, 1) := by decide +kernel
theorem dX8_unpick_16 : decode cX8_unpick 16 = .ok (.iaload, 1) := by decide +kernel
theorem dX8_unpick_17 : decode cX8_unpick 17 = .ok (.ifCond .ne 5, 3) := by decide +kernel
theorem dX8_unpick_20 : decode cX8_unpick 20 = .ok (.iconst 0, 1) := by decide +kernel
theorem dX8_unpick_21 : decode cX8_unpick 21 = .ok (.ireturn, 1) := by decide +kernel
theorem dX8_unpick_22 : decode cX8_unpick 22 = .ok (.iconst 0, 1) := by decide +kernel
theorem dX8_unpick_23 : decode cX8_unpick 23 = .ok (.istore_n 2, 1) := by decide +kernel
theorem dX8_unpick_24 : decode cX8_unpick 24 = .ok (.iload_n 2, 1) := by decide +kernel
theorem dX8_unpick_25 : decode cX8_unpick 25 = .ok (.aload_n 0, 1) := by decide +kernel
theorem dX8_unpick_26 : decode cX8_unpick 26 = .ok (.getfield 12, 3) := by decide +kernel
theorem dX8_unpick_29 : decode cX8_unpick 29 = .ok (.getfield 82, 3) := by decide +kernel
theorem dX8_unpick_32 : decode cX8_unpick 32 = .ok (.if_icmp .ge 37, 3) := by decide +kernel
theorem dX8_unpick_35 : decode cX8_unpick 35 = .ok (.aload_n 0, 1) := by decide +kernel
theorem dX8_unpick_36 : decode cX8_unpick 36 = .ok (.getfield 12, 3) := by decide +kernel
theorem dX8_unpick_39 : decode cX8_unpick 39 = .ok (.getfield 112, 3) := by decide +kernel
theorem dX8_unpick_42 : decode cX8_unpick 42 = .ok (.iload_n 2, 1) := by decide +kernel
theorem dX8_unpick_43 : decode cX8_unpick 43 = .ok (.iaload, 1) := by decide +kernel
theorem dX8_unpick_44 : decode cX8_unpick 44 = .ok (.iload_n 1, 1) := by decide +kernel
theorem dX8_unpick_45 : decode cX8_unpick 45 = .ok (.ishr, 1) := by decide +kernel
theorem dX8_unpick_46 : decode cX8_unpick 46 = .ok (.iconst 1, 1) := by decide +kernel
theorem dX8_unpick_47 : decode cX8_unpick 47 = .ok (.iand, 1) := by decide +kernel
theorem dX8_unpick_48 : decode cX8_unpick 48 = .ok (.iconst 1, 1) := by decide +kernel
theorem dX8_unpick_49 : decode cX8_unpick 49 = .ok (.if_icmp .ne 14, 3) := by decide +kernel
theorem dX8_unpick_52 : decode cX8_unpick 52 = .ok (.aload_n 0, 1) := by decide +kernel
theorem dX8_unpick_53 : decode cX8_unpick 53 = .ok (.getfield 18, 3) := by decide +kernel
theorem dX8_unpick_56 : decode cX8_unpick 56 = .ok (.iload_n 2, 1) := by decide +kernel
theorem dX8_unpick_57 : decode cX8_unpick 57 = .ok (.iaload, 1) := by decide +kernel
theorem dX8_unpick_58 : decode cX8_unpick 58 = .ok (.ifCond .le 5, 3) := by decide +kernel
theorem dX8_unpick_61 : decode cX8_unpick 61 = .ok (.iconst 0, 1) := by decide +kernel
theorem dX8_unpick_62 : decode cX8_unpick 62 = .ok (.ireturn, 1) := by decide +kernel
theorem dX8_unpick_63 : decode cX8_unpick 63 = .ok (.iinc 2 1, 3) := by decide +kernel
theorem dX8_unpick_66 : decode cX8_unpick 66 = .ok (.goto (-42), 3) := by decide +kernel
theorem dX8_unpick_69 : decode cX8_unpick 69 = .ok (.aload_n 0, 1) := by decide +kernel
theorem dX8_unpick_70 : decode cX8_unpick 70 = .ok (.iload_n 1, 1) := by decide +kernel
theorem dX8_unpick_71 : decode cX8_unpick 71 = .ok (.iconst 2, 1) := by decide +kernel
theorem dX8_unpick_72 : decode cX8_unpick 72 = .ok (.aload_n 0, 1) := by decide +kernel
theorem dX8_unpick_73 : decode cX8_unpick 73 = .ok (.getfield 18, 3) := by decide +kernel
theorem dX8_unpick_76 : decode cX8_unpick 76 = .ok (.iload_n 1, 1) := by decide +kernel
theorem dX8_unpick_77 : decode cX8_unpick 77 = .ok (.iaload, 1) := by decide +kernel
theorem dX8_unpick_78 : decode cX8_unpick 78 = .ok (.invokestatic 69, 3) := by decide +kernel
theorem dX8_unpick_81 : decode cX8_unpick 81 = .ok (.invokevirtual 119, 3) := by decide +kernel
theorem dX8_unpick_84 : decode cX8_unpick 84 = .ok (.iconst 1, 1) := by decide +kernel
theorem dX8_unpick_85 : decode cX8_unpick 85 = .ok (.ireturn, 1) := by decide +kernel
theorem dX8_tear_0 : decode cX8_tear 0 = .ok (.aload_n 0, 1) := by decide +kernel
theorem dX8_tear_1 : decode cX8_tear 1 = .ok (.getfield 12, 3) := by decide +kernel
theorem dX8_tear_4 : decode cX8_tear 4 = .ok (.iload_n 1, 1) := by decide +kernel
theorem dX8_tear_5 : decode cX8_tear 5 = .ok (.invokevirtual 103, 3) := by decide +kernel
theorem dX8_tear_8 : decode cX8_tear 8 = .ok (.ifCond .eq 12, 3) := by decide +kernel
theorem dX8_tear_11 : decode cX8_tear 11 = .ok (.aload_n 0, 1) := by decide +kernel
theorem dX8_tear_12 : decode cX8_tear 12 = .ok (.getfield 18, 3) := by decide +kernel
theorem dX8_tear_15 : decode cX8_tear 15 = .ok (.iload_n 1, 1) := by decide +kernel
theorem dX8_tear_16 : decode cX8_tear 16 = .ok (.iaload, 1) := by decide +kernel
theorem dX8_tear_17 : decode cX8_tear 17 = .ok (.ifCond .ne 5, 3) := by decide +kernel
theorem dX8_tear_20 : decode cX8_tear 20 = .ok (.iconst 0, 1) := by decide +kernel
theorem dX8_tear_21 : decode cX8_tear 21 = .ok (.ireturn, 1) := by decide +kernel
theorem dX8_tear_22 : decode cX8_tear 22 = .ok (.aload_n 0, 1) := by decide +kernel
theorem dX8_tear_23 : decode cX8_tear 23 = .ok (.iload_n 1, 1) := by decide +kernel
theorem dX8_tear_24 : decode cX8_tear 24 = .ok (.aload_n 0, 1) := by decide +kernel
theorem dX8_tear_25 : decode cX8_tear 25 = .ok (.getfield 18, 3) := by decide +kernel
theorem dX8_tear_28 : decode cX8_tear 28 = .ok (.iload_n 1, 1) := by decide +kernel
theorem dX8_tear_29 : decode cX8_tear 29 = .ok (.iaload, 1) := by decide +kernel
theorem dX8_tear_30 : decode cX8_tear 30 = .ok (.invokevirtual 119, 3) := by decide +kernel
theorem dX8_tear_33 : decode cX8_tear 33 = .ok (.iconst 1, 1) := by decide +kernel
theorem dX8_tear_34 : decode cX8_tear 34 = .ok (.ireturn, 1) := by decide +kernel
theorem dX8_sleep_0 : decode cX8_sleep 0 = .ok (.aload_n 0, 1) := by decide +kernel
theorem dX8_sleep_1 : decode cX8_sleep 1 = .ok (.getfield 25, 3) := by decide +kernel
theorem dX8_sleep_4 : decode cX8_sleep 4 = .ok (.iconst 1, 1) := by decide +kernel
theorem dX8_sleep_5 : decode cX8_sleep 5 = .ok (.iadd, 1) := by decide +kernel
theorem dX8_sleep_6 : decode cX8_sleep 6 = .ok (.bipush 100, 2) := by decide +kernel
theorem dX8_sleep_8 : decode cX8_sleep 8 = .ok (.if_icmp .lt 5, 3) := by decide +kernel
theorem dX8_sleep_11 : decode cX8_sleep 11 = .ok (.iconst 0, 1) := by decide +kernel
theorem dX8_sleep_12 : decode cX8_sleep 12 = .ok (.ireturn, 1) := by decide +kernel
theorem dX8_sleep_13 : decode cX8_sleep 13 = .ok (.aload_n 0, 1) := by decide +kernel
theorem dX8_sleep_14 : decode cX8_sleep 14 = .ok (.dup, 1) := by decide +kernel
theorem dX8_sleep_15 : decode cX8_sleep 15 = .ok (.getfield 25, 3) := by decide +kernel
theorem dX8_sleep_18 : decode cX8_sleep 18 = .ok (.iconst 1, 1) := by decide +kernel
theorem dX8_sleep_19 : decode cX8_sleep 19 = .ok (.iadd, 1) := by decide +kernel
theorem dX8_sleep_20 : decode cX8_sleep 20 = .ok (.putfield 25, 3) := by decide +kernel
theorem dX8_sleep_23 : decode cX8_sleep 23 = .ok (.aload_n 0, 1) := by decide +kernel
theorem dX8_sleep_24 : decode cX8_sleep 24 = .ok (.iconst 0, 1) := by decide +kernel
theorem dX8_sleep_25 : decode cX8_sleep 25 = .ok (.putfield 35, 3) := by decide +kernel
theorem dX8_sleep_28 : decode cX8_sleep 28 = .ok (.aload_n 0, 1) := by decide +kernel
theorem dX8_sleep_29 : decode cX8_sleep 29 = .ok (.aload_n 0, 1) := by decide +kernel
theorem dX8_sleep_30 : decode cX8_sleep 30 = .ok (.getfield 12, 3) := by decide +kernel
theorem dX8_sleep_33 : decode cX8_sleep 33 = .ok (.getfield 29, 3) := by decide +kernel
theorem dX8_sleep_36 : decode cX8_sleep 36 = .ok (.aload_n 0, 1) := by decide +kernel
theorem dX8_sleep_37 : decode cX8_sleep 37 = .ok (.getfield 25, 3) := by decide +kernel
theorem dX8_sleep_40 : decode cX8_sleep 40 = .ok (.iaload, 1) := by decide +kernel
theorem dX8_sleep_41 : decode cX8_sleep 41 = .ok (.invokevirtual 96, 3) := by decide +kernel
theorem dX8_sleep_44 : decode cX8_sleep 44 = .ok (.ireturn, 1) := by decide +kernel
theorem dX8_widen_0 : decode cX8_widen 0 = .ok (.aload_n 0, 1) := by decide +kernel
theorem dX8_widen_1 : decode cX8_widen 1 = .ok (.dup, 1) := by decide +kernel
theorem dX8_widen_2 : decode cX8_widen 2 = .ok (.getfield 32, 3) := by decide +kernel
theorem dX8_widen_5 : decode cX8_widen 5 = .ok (.iload_n 1, 1) := by decide +kernel
theorem dX8_widen_6 : decode cX8_widen 6 = .ok (.iadd, 1) := by decide +kernel
theorem dX8_widen_7 : decode cX8_widen 7 = .ok (.putfield 32, 3) := by decide +kernel
theorem dX8_widen_10 : decode cX8_widen 10 = .ok (.iconst 0, 1) := by decide +kernel
theorem dX8_widen_11 : decode cX8_widen 11 = .ok (.istore_n 2, 1) := by decide +kernel
theorem dX8_widen_12 : decode cX8_widen 12 = .ok (.iload_n 2, 1) := by decide +kernel
theorem dX8_widen_13 : decode cX8_widen 13 = .ok (.aload_n 0, 1) := by decide +kernel
theorem dX8_widen_14 : decode cX8_widen 14 = .ok (.getfield 12, 3) := by decide +kernel
theorem dX8_widen_17 : decode cX8_widen 17 = .ok (.getfield 82, 3) := by decide +kernel
theorem dX8_widen_20 : decode cX8_widen 20 = .ok (.if_icmp .ge 61, 3) := by decide +kernel
theorem dX8_widen_23 : decode cX8_widen 23 = .ok (.aload_n 0, 1) := by decide +kernel
theorem dX8_widen_24 : decode cX8_widen 24 = .ok (.iload_n 2, 1) := by decide +kernel
theorem dX8_widen_25 : decode cX8_widen 25 = .ok (.invokevirtual 106, 3) := by decide +kernel
theorem dX8_widen_28 : decode cX8_widen 28 = .ok (.ifCond .eq 47, 3) := by decide +kernel
theorem dX8_widen_31 : decode cX8_widen 31 = .ok (.aload_n 0, 1) := by decide +kernel
theorem dX8_widen_32 : decode cX8_widen 32 = .ok (.getfield 32, 3) := by decide +kernel
theorem dX8_widen_35 : decode cX8_widen 35 = .ok (.aload_n 0, 1) := by decide +kernel
theorem dX8_widen_36 : decode cX8_widen 36 = .ok (.getfield 22, 3) := by decide +kernel
theorem dX8_widen_39 : decode cX8_widen 39 = .ok (.iload_n 2, 1) := by decide +kernel
theorem dX8_widen_40 : decode cX8_widen 40 = .ok (.iaload, 1) := by decide +kernel
theorem dX8_widen_41 : decode cX8_widen 41 = .ok (.isub, 1) := by decide +kernel
theorem dX8_widen_42 : decode cX8_widen 42 = .ok (.aload_n 0, 1) := by decide +kernel
theorem dX8_widen_43 : decode cX8_widen 43 = .ok (.getfield 12, 3) := by decide +kernel
theorem dX8_widen_46 : decode cX8_widen 46 = .ok (.getfield 123, 3) := by decide +kernel
theorem dX8_widen_49 : decode cX8_widen 49 = .ok (.iload_n 2, 1) := by decide +kernel
theorem dX8_widen_50 : decode cX8_widen 50 = .ok (.iaload, 1) := by decide +kernel
theorem dX8_widen_51 : decode cX8_widen 51 = .ok (.if_icmp .le 24, 3) := by decide +kernel
theorem dX8_widen_54 : decode cX8_widen 54 = .ok (.aload_n 0, 1) := by decide +kernel
theorem dX8_widen_55 : decode cX8_widen 55 = .ok (.iload_n 2, 1) := by decide +kernel
theorem dX8_widen_56 : decode cX8_widen 56 = .ok (.aload_n 0, 1) := by decide +kernel
theorem dX8_widen_57 : decode cX8_widen 57 = .ok (.getfield 18, 3) := by decide +kernel
theorem dX8_widen_60 : decode cX8_widen 60 = .ok (.iload_n 2, 1) := by decide +kernel
theorem dX8_widen_61 : decode cX8_widen 61 = .ok (.iaload, 1) := by decide +kernel
theorem dX8_widen_62 : decode cX8_widen 62 = .ok (.invokevirtual 119, 3) := by decide +kernel
theorem dX8_widen_65 : decode cX8_widen 65 = .ok (.aload_n 0, 1) := by decide +kernel
theorem dX8_widen_66 : decode cX8_widen 66 = .ok (.dup, 1) := by decide +kernel
theorem dX8_widen_67 : decode cX8_widen 67 = .ok (.getfield 38, 3) := by decide +kernel
theorem dX8_widen_70 : decode cX8_widen 70 = .ok (.iconst 1, 1) := by decide +kernel
theorem dX8_widen_71 : decode cX8_widen 71 = .ok (.iadd, 1) := by decide +kernel
theorem dX8_widen_72 : decode cX8_widen 72 = .ok (.putfield 38, 3) := by decide +kernel
theorem dX8_widen_75 : decode cX8_widen 75 = .ok (.iinc 2 1, 3) := by decide +kernel
theorem dX8_widen_78 : decode cX8_widen 78 = .ok (.goto (-66), 3) := by decide +kernel
theorem dX8_widen_81 : decode cX8_widen 81 = .ok (.iconst 1, 1) := by decide +kernel
theorem dX8_widen_82 : decode cX8_widen 82 = .ok (.ireturn, 1) := by decide +kernel
theorem dX8_lose_0 : decode cX8_lose 0 = .ok (.aload_n 0, 1) := by decide +kernel
theorem dX8_lose_1 : decode cX8_lose 1 = .ok (.getfield 12, 3) := by decide +kernel
theorem dX8_lose_4 : decode cX8_lose 4 = .ok (.iload_n 1, 1) := by decide +kernel
theorem dX8_lose_5 : decode cX8_lose 5 = .ok (.invokevirtual 103, 3) := by decide +kernel
theorem dX8_lose_8 : decode cX8_lose 8 = .ok (.ifCond .eq 23, 3) := by decide +kernel
theorem dX8_lose_11 : decode cX8_lose 11 = .ok (.aload_n 0, 1) := by decide +kernel
theorem dX8_lose_12 : decode cX8_lose 12 = .ok (.getfield 18, 3) := by decide +kernel
theorem dX8_lose_15 : decode cX8_lose 15 = .ok (.iload_n 1, 1) := by decide +kernel
theorem dX8_lose_16 : decode cX8_lose 16 = .ok (.dup2, 1) := by decide +kernel
theorem dX8_lose_17 : decode cX8_lose 17 = .ok (.iaload, 1) := by decide +kernel
theorem dX8_lose_18 : decode cX8_lose 18 = .ok (.iload_n 2, 1) := by decide +kernel
theorem dX8_lose_19 : decode cX8_lose 19 = .ok (.isub, 1) := by decide +kernel
theorem dX8_lose_20 : decode cX8_lose 20 = .ok (.iastore, 1) := by decide +kernel
theorem dX8_lose_21 : decode cX8_lose 21 = .ok (.aload_n 0, 1) := by decide +kernel
theorem dX8_lose_22 : decode cX8_lose 22 = .ok (.dup, 1) := by decide +kernel
theorem dX8_lose_23 : decode cX8_lose 23 = .ok (.getfield 41, 3) := by decide +kernel
theorem dX8_lose_26 : decode cX8_lose 26 = .ok (.iload_n 2, 1) := by decide +kernel
theorem dX8_lose_27 : decode cX8_lose 27 = .ok (.iadd, 1) := by decide +kernel
theorem dX8_lose_28 : decode cX8_lose 28 = .ok (.putfield 41, 3) := by decide +kernel
theorem dX8_lose_31 : decode cX8_lose 31 = .ok (.return_, 1) := by decide +kernel
theorem dX8_isWhole_0 : decode cX8_isWhole 0 = .ok (.aload_n 0, 1) := by decide +kernel
theorem dX8_isWhole_1 : decode cX8_isWhole 1 = .ok (.getfield 12, 3) := by decide +kernel
theorem dX8_isWhole_4 : decode cX8_isWhole 4 = .ok (.iload_n 1, 1) := by decide +kernel
theorem dX8_isWhole_5 : decode cX8_isWhole 5 = .ok (.invokevirtual 103, 3) := by decide +kernel
theorem dX8_isWhole_8 : decode cX8_isWhole 8 = .ok (.ifCond .eq 25, 3) := by decide +kernel
theorem dX8_isWhole_11 : decode cX8_isWhole 11 = .ok (.aload_n 0, 1) := by decide +kernel
theorem dX8_isWhole_12 : decode cX8_isWhole 12 = .ok (.getfield 18, 3) := by decide +kernel
theorem dX8_isWhole_15 : decode cX8_isWhole 15 = .ok (.iload_n 1, 1) := by decide +kernel
theorem dX8_isWhole_16 : decode cX8_isWhole 16 = .ok (.iaload, 1) := by decide +kernel
theorem dX8_isWhole_17 : decode cX8_isWhole 17 = .ok (.aload_n 0, 1) := by decide +kernel
theorem dX8_isWhole_18 : decode cX8_isWhole 18 = .ok (.getfield 12, 3) := by decide +kernel
theorem dX8_isWhole_21 : decode cX8_isWhole 21 = .ok (.getfield 126, 3) := by decide +kernel
theorem dX8_isWhole_24 : decode cX8_isWhole 24 = .ok (.iload_n 1, 1) := by decide +kernel
theorem dX8_isWhole_25 : decode cX8_isWhole 25 = .ok (.iaload, 1) := by decide +kernel
theorem dX8_isWhole_26 : decode cX8_isWhole 26 = .ok (.if_icmp .ne 7, 3) := by decide +kernel
theorem dX8_isWhole_29 : decode cX8_isWhole 29 = .ok (.iconst 1, 1) := by decide +kernel
theorem dX8_isWhole_30 : decode cX8_isWhole 30 = .ok (.goto 4, 3) := by decide +kernel
theorem dX8_isWhole_33 : decode cX8_isWhole 33 = .ok (.iconst 0, 1) := by decide +kernel
theorem dX8_isWhole_34 : decode cX8_isWhole 34 = .ok (.ireturn, 1) := by decide +kernel
theorem dX8_wholeOnes_0 : decode cX8_wholeOnes 0 = .ok (.iconst 0, 1) := by decide +kernel
theorem dX8_wholeOnes_1 : decode cX8_wholeOnes 1 = .ok (.istore_n 1, 1) := by decide +kernel
theorem dX8_wholeOnes_2 : decode cX8_wholeOnes 2 = .ok (.iconst 0, 1) := by decide +kernel
theorem dX8_wholeOnes_3 : decode cX8_wholeOnes 3 = .ok (.istore_n 2, 1) := by decide +kernel
theorem dX8_wholeOnes_4 : decode cX8_wholeOnes 4 = .ok (.iload_n 2, 1) := by decide +kernel
theorem dX8_wholeOnes_5 : decode cX8_wholeOnes 5 = .ok (.aload_n 0, 1) := by decide +kernel
theorem dX8_wholeOnes_6 : decode cX8_wholeOnes 6 = .ok (.getfield 12, 3) := by decide +kernel
theorem dX8_wholeOnes_9 : decode cX8_wholeOnes 9 = .ok (.getfield 82, 3) := by decide +kernel
theorem dX8_wholeOnes_12 : decode cX8_wholeOnes 12 = .ok (.if_icmp .ge 23, 3) := by decide +kernel
theorem dX8_wholeOnes_15 : decode cX8_wholeOnes 15 = .ok (.aload_n 0, 1) := by decide +kernel
theorem dX8_wholeOnes_16 : decode cX8_wholeOnes 16 = .ok (.iload_n 2, 1) := by decide +kernel
theorem dX8_wholeOnes_17 : decode cX8_wholeOnes 17 = .ok (.invokevirtual 106, 3) := by decide +kernel
theorem dX8_wholeOnes_20 : decode cX8_wholeOnes 20 = .ok (.ifCond .eq 9, 3) := by decide +kernel
theorem dX8_wholeOnes_23 : decode cX8_wholeOnes 23 = .ok (.iload_n 1, 1) := by decide +kernel
theorem dX8_wholeOnes_24 : decode cX8_wholeOnes 24 = .ok (.iconst 1, 1) := by decide +kernel
theorem dX8_wholeOnes_25 : decode cX8_wholeOnes 25 = .ok (.iload_n 2, 1) := by decide +kernel
theorem dX8_wholeOnes_26 : decode cX8_wholeOnes 26 = .ok (.ishl, 1) := by decide +kernel
theorem dX8_wholeOnes_27 : decode cX8_wholeOnes 27 = .ok (.ior, 1) := by decide +kernel
theorem dX8_wholeOnes_28 : decode cX8_wholeOnes 28 = .ok (.istore_n 1, 1) := by decide +kernel
theorem dX8_wholeOnes_29 : decode cX8_wholeOnes 29 = .ok (.iinc 2 1, 3) := by decide +kernel
theorem dX8_wholeOnes_32 : decode cX8_wholeOnes 32 = .ok (.goto (-28), 3) := by decide +kernel
theorem dX8_wholeOnes_35 : decode cX8_wholeOnes 35 = .ok (.iload_n 1, 1) := by decide +kernel
theorem dX8_wholeOnes_36 : decode cX8_wholeOnes 36 = .ok (.ireturn, 1) := by decide +kernel
theorem dX8_tell_0 : decode cX8_tell 0 = .ok (.iload_n 1, 1) := by decide +kernel
theorem dX8_tell_1 : decode cX8_tell 1 = .ok (.tableswitch 69 0 5 #[39, 44, 49, 54, 59, 64], 39) := by decide +kernel
theorem dX8_tell_40 : decode cX8_tell 40 = .ok (.aload_n 0, 1) := by decide +kernel
theorem dX8_tell_41 : decode cX8_tell 41 = .ok (.getfield 25, 3) := by decide +kernel
theorem dX8_tell_44 : decode cX8_tell 44 = .ok (.ireturn, 1) := by decide +kernel
theorem dX8_tell_45 : decode cX8_tell 45 = .ok (.aload_n 0, 1) := by decide +kernel
theorem dX8_tell_46 : decode cX8_tell 46 = .ok (.getfield 32, 3) := by decide +kernel
theorem dX8_tell_49 : decode cX8_tell 49 = .ok (.ireturn, 1) := by decide +kernel
theorem dX8_tell_50 : decode cX8_tell 50 = .ok (.aload_n 0, 1) := by decide +kernel
theorem dX8_tell_51 : decode cX8_tell 51 = .ok (.getfield 35, 3) := by decide +kernel
theorem dX8_tell_54 : decode cX8_tell 54 = .ok (.ireturn, 1) := by decide +kernel
theorem dX8_tell_55 : decode cX8_tell 55 = .ok (.aload_n 0, 1) := by decide +kernel
theorem dX8_tell_56 : decode cX8_tell 56 = .ok (.getfield 38, 3) := by decide +kernel
theorem dX8_tell_59 : decode cX8_tell 59 = .ok (.ireturn, 1) := by decide +kernel
theorem dX8_tell_60 : decode cX8_tell 60 = .ok (.aload_n 0, 1) := by decide +kernel
theorem dX8_tell_61 : decode cX8_tell 61 = .ok (.getfield 41, 3) := by decide +kernel
theorem dX8_tell_64 : decode cX8_tell 64 = .ok (.ireturn, 1) := by decide +kernel
theorem dX8_tell_65 : decode cX8_tell 65 = .ok (.aload_n 0, 1) := by decide +kernel
theorem dX8_tell_66 : decode cX8_tell 66 = .ok (.invokevirtual 115, 3) := by decide +kernel
theorem dX8_tell_69 : decode cX8_tell 69 = .ok (.ireturn, 1) := by decide +kernel
theorem dX8_tell_70 : decode cX8_tell 70 = .ok (.iload_n 1, 1) := by decide +kernel
theorem dX8_tell_71 : decode cX8_tell 71 = .ok (.bipush 10, 2) := by decide +kernel
theorem dX8_tell_73 : decode cX8_tell 73 = .ok (.irem, 1) := by decide +kernel
theorem dX8_tell_74 : decode cX8_tell 74 = .ok (.istore_n 2, 1) := by decide +kernel
theorem dX8_tell_75 : decode cX8_tell 75 = .ok (.iload_n 1, 1) := by decide +kernel
theorem dX8_tell_76 : decode cX8_tell 76 = .ok (.bipush 10, 2) := by decide +kernel
theorem dX8_tell_78 : decode cX8_tell 78 = .ok (.if_icmp .lt 27, 3) := by decide +kernel
theorem dX8_tell_81 : decode cX8_tell 81 = .ok (.iload_n 1, 1) := by decide +kernel
theorem dX8_tell_82 : decode cX8_tell 82 = .ok (.bipush 20, 2) := by decide +kernel
theorem dX8_tell_84 : decode cX8_tell 84 = .ok (.if_icmp .ge 21, 3) := by decide +kernel
theorem dX8_tell_87 : decode cX8_tell 87 = .ok (.aload_n 0, 1) := by decide +kernel
theorem dX8_tell_88 : decode cX8_tell 88 = .ok (.getfield 12, 3) := by decide +kernel
theorem dX8_tell_91 : decode cX8_tell 91 = .ok (.iload_n 2, 1) := by decide +kernel
theorem dX8_tell_92 : decode cX8_tell 92 = .ok (.invokevirtual 103, 3) := by decide +kernel
theorem dX8_tell_95 : decode cX8_tell 95 = .ok (.ifCond .eq 10, 3) := by decide +kernel
theorem dX8_tell_98 : decode cX8_tell 98 = .ok (.aload_n 0, 1) := by decide +kernel
theorem dX8_tell_99 : decode cX8_tell 99 = .ok (.getfield 18, 3) := by decide +kernel
theorem dX8_tell_102 : decode cX8_tell 102 = .ok (.iload_n 2, 1) := by decide +kernel
theorem dX8_tell_103 : decode cX8_tell 103 = .ok (.iaload, 1) := by decide +kernel
theorem dX8_tell_104 : decode cX8_tell 104 = .ok (.ireturn, 1) := by decide +kernel
theorem dX8_tell_105 : decode cX8_tell 105 = .ok (.iload_n 1, 1) := by decide +kernel
theorem dX8_tell_106 : decode cX8_tell 106 = .ok (.bipush 20, 2) := by decide +kernel
theorem dX8_tell_108 : decode cX8_tell 108 = .ok (.if_icmp .lt 26, 3) := by decide +kernel
theorem dX8_tell_111 : decode cX8_tell 111 = .ok (.iload_n 1, 1) := by decide +kernel
theorem dX8_tell_112 : decode cX8_tell 112 = .ok (.bipush 30, 2) := by decide +kernel
theorem dX8_tell_114 : decode cX8_tell 114 = .ok (.if_icmp .ge 20, 3) := by decide +kernel
theorem dX8_tell_117 : decode cX8_tell 117 = .ok (.aload_n 0, 1) := by decide +kernel
theorem dX8_tell_118 : decode cX8_tell 118 = .ok (.iload_n 2, 1) := by decide +kernel
theorem dX8_tell_119 : decode cX8_tell 119 = .ok (.invokevirtual 106, 3) := by decide +kernel
theorem dX8_tell_122 : decode cX8_tell 122 = .ok (.ifCond .eq 12, 3) := by decide +kernel
theorem dX8_tell_125 : decode cX8_tell 125 = .ok (.aload_n 0, 1) := by decide +kernel
theorem dX8_tell_126 : decode cX8_tell 126 = .ok (.getfield 22, 3) := by decide +kernel
theorem dX8_tell_129 : decode cX8_tell 129 = .ok (.iload_n 2, 1) := by decide +kernel
theorem dX8_tell_130 : decode cX8_tell 130 = .ok (.iaload, 1) := by decide +kernel
theorem dX8_tell_131 : decode cX8_tell 131 = .ok (.goto 6, 3) := by decide +kernel
theorem dX8_tell_134 : decode cX8_tell 134 = .ok (.sipush (-1000), 3) := by decide +kernel
theorem dX8_tell_137 : decode cX8_tell 137 = .ok (.ireturn, 1) := by decide +kernel
theorem dX9_init_0 : decode cX9_init 0 = .ok (.aload_n 0, 1) := by decide +kernel
theorem dX9_init_1 : decode cX9_init 1 = .ok (.invokespecial 3, 3) := by decide +kernel
theorem dX9_init_4 : decode cX9_init 4 = .ok (.aload_n 0, 1) := by decide +kernel
theorem dX9_init_5 : decode cX9_init 5 = .ok (.new 9, 3) := by decide +kernel
theorem dX9_init_8 : decode cX9_init 8 = .ok (.dup, 1) := by decide +kernel
theorem dX9_init_9 : decode cX9_init 9 = .ok (.invokespecial 11, 3) := by decide +kernel
theorem dX9_init_12 : decode cX9_init 12 = .ok (.putfield 12, 3) := by decide +kernel
theorem dX9_init_15 : decode cX9_init 15 = .ok (.aload_n 0, 1) := by decide +kernel
theorem dX9_init_16 : decode cX9_init 16 = .ok (.iconst 3, 1) := by decide +kernel
theorem dX9_init_17 : decode cX9_init 17 = .ok (.anewarray 9, 3) := by decide +kernel
theorem dX9_init_20 : decode cX9_init 20 = .ok (.putfield 16, 3) := by decide +kernel
theorem dX9_init_23 : decode cX9_init 23 = .ok (.aload_n 0, 1) := by decide +kernel
theorem dX9_init_24 : decode cX9_init 24 = .ok (.new 20, 3) := by decide +kernel
theorem dX9_init_27 : decode cX9_init 27 = .ok (.dup, 1) := by decide +kernel
theorem dX9_init_28 : decode cX9_init 28 = .ok (.invokespecial 22, 3) := by decide +kernel
theorem dX9_init_31 : decode cX9_init 31 = .ok (.putfield 23, 3) := by decide +kernel
theorem dX9_init_34 : decode cX9_init 34 = .ok (.aload_n 0, 1) := by decide +kernel
theorem dX9_init_35 : decode cX9_init 35 = .ok (.new 27, 3) := by decide +kernel
theorem dX9_init_38 : decode cX9_init 38 = .ok (.dup, 1) := by decide +kernel
theorem dX9_init_39 : decode cX9_init 39 = .ok (.invokespecial 29, 3) := by decide +kernel
theorem dX9_init_42 : decode cX9_init 42 = .ok (.putfield 30, 3) := by decide +kernel
theorem dX9_init_45 : decode cX9_init 45 = .ok (.aload_n 0, 1) := by decide +kernel
theorem dX9_init_46 : decode cX9_init 46 = .ok (.new 34, 3) := by decide +kernel
theorem dX9_init_49 : decode cX9_init 49 = .ok (.dup, 1) := by decide +kernel
theorem dX9_init_50 : decode cX9_init 50 = .ok (.invokespecial 36, 3) := by decide +kernel
theorem dX9_init_53 : decode cX9_init 53 = .ok (.putfield 37, 3) := by decide +kernel
theorem dX9_init_56 : decode cX9_init 56 = .ok (.aload_n 0, 1) := by decide +kernel
theorem dX9_init_57 : decode cX9_init 57 = .ok (.new 41, 3) := by decide +kernel
theorem dX9_init_60 : decode cX9_init 60 = .ok (.dup, 1) := by decide +kernel
theorem dX9_init_61 : decode cX9_init 61 = .ok (.invokespecial 43, 3) := by decide +kernel
theorem dX9_init_64 : decode cX9_init 64 = .ok (.putfield 44, 3) := by decide +kernel
theorem dX9_init_67 : decode cX9_init 67 = .ok (.return_, 1) := by decide +kernel
theorem dX9_feed_0 : decode cX9_feed 0 = .ok (.aload_n 0, 1) := by decide +kernel
theorem dX9_feed_1 : decode cX9_feed 1 = .ok (.getfield 12, 3) := by decide +kernel
theorem dX9_feed_4 : decode cX9_feed 4 = .ok (.getfield 48, 3) := by decide +kernel
theorem dX9_feed_7 : decode cX9_feed 7 = .ok (.bipush 20, 2) := by decide +kernel
theorem dX9_feed_9 : decode cX9_feed 9 = .ok (.iadd, 1) := by decide +kernel
theorem dX9_feed_10 : decode cX9_feed 10 = .ok (.sipush 600, 3) := by decide +kernel
theorem dX9_feed_13 : decode cX9_feed 13 = .ok (.if_icmp .le 5, 3) := by decide +kernel
theorem dX9_feed_16 : decode cX9_feed 16 = .ok (.iconst (-1), 1) := by decide +kernel
theorem dX9_feed_17 : decode cX9_feed 17 = .ok (.ireturn, 1) := by decide +kernel
theorem dX9_feed_18 : decode cX9_feed 18 = .ok (.aload_n 0, 1) := by decide +kernel
theorem dX9_feed_19 : decode cX9_feed 19 = .ok (.getfield 12, 3) := by decide +kernel
theorem dX9_feed_22 : decode cX9_feed 22 = .ok (.iload_n 1, 1) := by decide +kernel
theorem dX9_feed_23 : decode cX9_feed 23 = .ok (.invokevirtual 52, 3) := by decide +kernel
theorem dX9_feed_26 : decode cX9_feed 26 = .ok (.aload_n 0, 1) := by decide +kernel
theorem dX9_feed_27 : decode cX9_feed 27 = .ok (.getfield 12, 3) := by decide +kernel
theorem dX9_feed_30 : decode cX9_feed 30 = .ok (.iload_n 2, 1) := by decide +kernel
theorem dX9_feed_31 : decode cX9_feed 31 = .ok (.invokevirtual 52, 3) := by decide +kernel
theorem dX9_feed_34 : decode cX9_feed 34 = .ok (.aload_n 0, 1) := by decide +kernel
theorem dX9_feed_35 : decode cX9_feed 35 = .ok (.getfield 12, 3) := by decide +kernel
theorem dX9_feed_38 : decode cX9_feed 38 = .ok (.iload_n 3, 1) := by decide +kernel
theorem dX9_feed_39 : decode cX9_feed 39 = .ok (.invokevirtual 52, 3) := by decide +kernel
theorem dX9_feed_42 : decode cX9_feed 42 = .ok (.aload_n 0, 1) := by decide +kernel
theorem dX9_feed_43 : decode cX9_feed 43 = .ok (.getfield 12, 3) := by decide +kernel
theorem dX9_feed_46 : decode cX9_feed 46 = .ok (.iload 4, 2) := by decide +kernel
theorem dX9_feed_48 : decode cX9_feed 48 = .ok (.invokevirtual 52, 3) := by decide +kernel
theorem dX9_feed_51 : decode cX9_feed 51 = .ok (.aload_n 0, 1) := by decide +kernel
theorem dX9_feed_52 : decode cX9_feed 52 = .ok (.getfield 12, 3) := by decide +kernel
theorem dX9_feed_55 : decode cX9_feed 55 = .ok (.iload 5, 2) := by decide +kernel
theorem dX9_feed_57 : decode cX9_feed 57 = .ok (.invokevirtual 52, 3) := by decide +kernel
theorem dX9_feed_60 : decode cX9_feed 60 = .ok (.aload_n 0, 1) := by decide +kernel
theorem dX9_feed_61 : decode cX9_feed 61 = .ok (.getfield 12, 3) := by decide +kernel
theorem dX9_feed_64 : decode cX9_feed 64 = .ok (.getfield 48, 3) := by decide +kernel
theorem dX9_feed_67 : decode cX9_feed 67 = .ok (.ireturn, 1) := by decide +kernel
theorem dX9_end_0 : decode cX9_end 0 = .ok (.iload_n 1, 1) := by decide +kernel
theorem dX9_end_1 : decode cX9_end 1 = .ok (.ifCond .lt 14, 3) := by decide +kernel
theorem dX9_end_4 : decode cX9_end 4 = .ok (.iload_n 1, 1) := by decide +kernel
theorem dX9_end_5 : decode cX9_end 5 = .ok (.aload_n 0, 1) := by decide +kernel
theorem dX9_end_6 : decode cX9_end 6 = .ok (.getfield 12, 3) := by decide +kernel
theorem dX9_end_9 : decode cX9_end 9 = .ok (.getfield 48, 3) := by decide +kernel
theorem dX9_end_12 : decode cX9_end 12 = .ok (.if_icmp .le 5, 3) := by decide +kernel
theorem dX9_end_15 : decode cX9_end 15 = .ok (.iconst (-1), 1) := by decide +kernel
theorem dX9_end_16 : decode cX9_end 16 = .ok (.ireturn, 1) := by decide +kernel
theorem dX9_end_17 : decode cX9_end 17 = .ok (.aload_n 0, 1) := by decide +kernel
theorem dX9_end_18 : decode cX9_end 18 = .ok (.getfield 12, 3) := by decide +kernel
theorem dX9_end_21 : decode cX9_end 21 = .ok (.iload_n 1, 1) := by decide +kernel
theorem dX9_end_22 : decode cX9_end 22 = .ok (.putfield 48, 3) := by decide +kernel
theorem dX9_end_25 : decode cX9_end 25 = .ok (.iload_n 1, 1) := by decide +kernel
theorem dX9_end_26 : decode cX9_end 26 = .ok (.ireturn, 1) := by decide +kernel
theorem dX9_text_0 : decode cX9_text 0 = .ok (.aload_n 0, 1) := by decide +kernel
theorem dX9_text_1 : decode cX9_text 1 = .ok (.iload_n 1, 1) := by decide +kernel
theorem dX9_text_2 : decode cX9_text 2 = .ok (.invokevirtual 56, 3) := by decide +kernel
theorem dX9_text_5 : decode cX9_text 5 = .ok (.istore_n 3, 1) := by decide +kernel
theorem dX9_text_6 : decode cX9_text 6 = .ok (.iload_n 2, 1) := by decide +kernel
theorem dX9_text_7 : decode cX9_text 7 = .ok (.iconst (-1), 1) := by decide +kernel
theorem dX9_text_8 : decode cX9_text 8 = .ok (.if_icmp .ne 7, 3) := by decide +kernel
theorem dX9_text_11 : decode cX9_text 11 = .ok (.iconst 1, 1) := by decide +kernel
theorem dX9_text_12 : decode cX9_text 12 = .ok (.goto 4, 3) := by decide +kernel
theorem dX9_text_15 : decode cX9_text 15 = .ok (.iconst 0, 1) := by decide +kernel
theorem dX9_text_16 : decode cX9_text 16 = .ok (.istore 4, 2) := by decide +kernel
theorem dX9_text_18 : decode cX9_text 18 = .ok (.iload 4, 2) := by decide +kernel
theorem dX9_text_20 : decode cX9_text 20 = .ok (.ifCond .eq 20, 3) := by decide +kernel
theorem dX9_text_23 : decode cX9_text 23 = .ok (.iload_n 3, 1) := by decide +kernel
theorem dX9_text_24 : decode cX9_text 24 = .ok (.ifCond .lt 12, 3) := by decide +kernel
theorem dX9_text_27 : decode cX9_text 27 = .ok (.iload_n 3, 1) := by decide +kernel
theorem dX9_text_28 : decode cX9_text 28 = .ok (.iconst 2, 1) := by decide +kernel
theorem dX9_text_29 : decode cX9_text 29 = .ok (.if_icmp .ge 7, 3) := by decide +kernel
theorem dX9_text_32 : decode cX9_text 32 = .ok (.iconst 1, 1) := by decide +kernel
theorem dX9_text_33 : decode cX9_text 33 = .ok (.goto 21, 3) := by decide +kernel
theorem dX9_text_36 : decode cX9_text 36 = .ok (.iconst 0, 1) := by decide +kernel
theorem dX9_text_37 : decode cX9_text 37 = .ok (.goto 17, 3) := by decide +kernel
theorem dX9_text_40 : decode cX9_text 40 = .ok (.iload_n 2, 1) := by decide +kernel
theorem dX9_text_41 : decode cX9_text 41 = .ok (.ifCond .lt 12, 3) := by decide +kernel
theorem dX9_text_44 : decode cX9_text 44 = .ok (.iload_n 2, 1) := by decide +kernel
theorem dX9_text_45 : decode cX9_text 45 = .ok (.iload_n 3, 1) := by decide +kernel
theorem dX9_text_46 : decode cX9_text 46 = .ok (.if_icmp .ge 7, 3) := by decide +kernel
theorem dX9_text_49 : decode cX9_text 49 = .ok (.iconst 1, 1) := by decide +kernel
theorem dX9_text_50 : decode cX9_text 50 = .ok (.goto 4, 3) := by decide +kernel
theorem dX9_text_53 : decode cX9_text 53 = .ok (.iconst 0, 1) := by decide +kernel
theorem dX9_text_54 : decode cX9_text 54 = .ok (.istore 5, 2) := by decide +kernel
theorem dX9_text_56 : decode cX9_text 56 = .ok (.iload 5, 2) := by decide +kernel
theorem dX9_text_58 : decode cX9_text 58 = .ok (.ifCond .ne 15, 3) := by decide +kernel
theorem dX9_text_61 : decode cX9_text 61 = .ok (.aload_n 0, 1) := by decide +kernel
theorem dX9_text_62 : decode cX9_text 62 = .ok (.getfield 12, 3) := by decide +kernel
theorem dX9_text_65 : decode cX9_text 65 = .ok (.iconst 0, 1) := by decide +kernel
theorem dX9_text_66 : decode cX9_text 66 = .ok (.iconst (-1), 1) := by decide +kernel
theorem dX9_text_67 : decode cX9_text 67 = .ok (.invokevirtual 60, 3) := by decide +kernel
theorem dX9_text_70 : decode cX9_text 70 = .ok (.bipush (-2), 2) := by decide +kernel
theorem dX9_text_72 : decode cX9_text 72 = .ok (.ireturn, 1) := by decide +kernel
theorem dX9_text_73 : decode cX9_text 73 = .ok (.aload_n 0, 1) := by decide +kernel
theorem dX9_text_74 : decode cX9_text 74 = .ok (.getfield 23, 3) := by decide +kernel
theorem dX9_text_77 : decode cX9_text 77 = .ok (.iload_n 1, 1) := by decide +kernel
theorem dX9_text_78 : decode cX9_text 78 = .ok (.aload_n 0, 1) := by decide +kernel
theorem dX9_text_79 : decode cX9_text 79 = .ok (.getfield 12, 3) := by decide +kernel
theorem dX9_text_82 : decode cX9_text 82 = .ok (.getfield 64, 3) := by decide +kernel
theorem dX9_text_85 : decode cX9_text 85 = .ok (.aload_n 0, 1) := by decide +kernel
theorem dX9_text_86 : decode cX9_text 86 = .ok (.getfield 12, 3) := by decide +kernel
theorem dX9_text_89 : decode cX9_text 89 = .ok (.getfield 48, 3) := by decide +kernel
theorem dX9_text_92 : decode cX9_text 92 = .ok (.invokevirtual 68, 3) := by decide +kernel
theorem dX9_text_95 : decode cX9_text 95 = .ok (.aload_n 0, 1) := by decide +kernel
theorem dX9_text_96 : decode cX9_text 96 = .ok (.getfield 12, 3) := by decide +kernel
theorem dX9_text_99 : decode cX9_text 99 = .ok (.aload_n 0, 1) := by decide +kernel
theorem dX9_text_100 : decode cX9_text 100 = .ok (.getfield 23, 3) := by decide +kernel
theorem dX9_text_103 : decode cX9_text 103 = .ok (.getfield 72, 3) := by decide +kernel
theorem dX9_text_106 : decode cX9_text 106 = .ok (.aload_n 0, 1) := by decide +kernel
theorem dX9_text_107 : decode cX9_text 107 = .ok (.getfield 23, 3) := by decide +kernel
theorem dX9_text_110 : decode cX9_text 110 = .ok (.getfield 75, 3) := by decide +kernel
theorem dX9_text_113 : decode cX9_text 113 = .ok (.invokevirtual 60, 3) := by decide +kernel
theorem dX9_text_116 : decode cX9_text 116 = .ok (.aload_n 0, 1) := by decide +kernel
theorem dX9_text_117 : decode cX9_text 117 = .ok (.getfield 23, 3) := by decide +kernel
theorem dX9_text_120 : decode cX9_text 120 = .ok (.getfield 72, 3) := by decide +kernel
theorem dX9_text_123 : decode cX9_text 123 = .ok (.ifCond .eq 5, 3) := by decide +kernel
theorem dX9_text_126 : decode cX9_text 126 = .ok (.iconst (-1), 1) := by decide +kernel
theorem dX9_text_127 : decode cX9_text 127 = .ok (.ireturn, 1) := by decide +kernel
theorem dX9_text_128 : decode cX9_text 128 = .ok (.iload 4, 2) := by decide +kernel
theorem dX9_text_130 : decode cX9_text 130 = .ok (.ifCond .eq 7, 3) := by decide +kernel
theorem dX9_text_133 : decode cX9_text 133 = .ok (.iload_n 3, 1) := by decide +kernel
theorem dX9_text_134 : decode cX9_text 134 = .ok (.goto 4, 3) := by decide +kernel
theorem dX9_text_137 : decode cX9_text 137 = .ok (.iload_n 2, 1) := by decide +kernel
theorem dX9_text_138 : decode cX9_text 138 = .ok (.istore 6, 2) := by decide +kernel
theorem dX9_text_140 : decode cX9_text 140 = .ok (.aload_n 0, 1) := by decide +kernel
theorem dX9_text_141 : decode cX9_text 141 = .ok (.getfield 12, 3) := by decide +kernel
theorem dX9_text_144 : decode cX9_text 144 = .ok (.iload_n 1, 1) := by decide +kernel
theorem dX9_text_145 : decode cX9_text 145 = .ok (.iload 6, 2) := by decide +kernel
theorem dX9_text_147 : decode cX9_text 147 = .ok (.aload_n 0, 1) := by decide +kernel
theorem dX9_text_148 : decode cX9_text 148 = .ok (.getfield 23, 3) := by decide +kernel
theorem dX9_text_151 : decode cX9_text 151 = .ok (.invokevirtual 78, 3) := by decide +kernel
theorem dX9_text_154 : decode cX9_text 154 = .ok (.iload 6, 2) := by decide +kernel
theorem dX9_text_156 : decode cX9_text 156 = .ok (.ireturn, 1) := by decide +kernel
theorem dX9_fault_0 : decode cX9_fault 0 = .ok (.iload_n 1, 1) := by decide +kernel
theorem dX9_fault_1 : decode cX9_fault 1 = .ok (.lookupswitch 43 #[(0, 27), (1, 35)], 27) := by decide +kernel
theorem dX9_fault_28 : decode cX9_fault 28 = .ok (.aload_n 0, 1) := by decide +kernel
theorem dX9_fault_29 : decode cX9_fault 29 = .ok (.getfield 12, 3) := by decide +kernel
theorem dX9_fault_32 : decode cX9_fault 32 = .ok (.getfield 82, 3) := by decide +kernel
theorem dX9_fault_35 : decode cX9_fault 35 = .ok (.ireturn, 1) := by decide +kernel
theorem dX9_fault_36 : decode cX9_fault 36 = .ok (.aload_n 0, 1) := by decide +kernel
theorem dX9_fault_37 : decode cX9_fault 37 = .ok (.getfield 12, 3) := by decide +kernel
theorem dX9_fault_40 : decode cX9_fault 40 = .ok (.getfield 83, 3) := by decide +kernel
theorem dX9_fault_43 : decode cX9_fault 43 = .ok (.ireturn, 1) := by decide +kernel
theorem dX9_fault_44 : decode cX9_fault 44 = .ok (.iconst (-1), 1) := by decide +kernel
theorem dX9_fault_45 : decode cX9_fault 45 = .ok (.ireturn, 1) := by decide +kernel
theorem dX9_coat_0 : decode cX9_coat 0 = .ok (.aload_n 0, 1) := by decide +kernel
theorem dX9_coat_1 : decode cX9_coat 1 = .ok (.iload_n 1, 1) := by decide +kernel
theorem dX9_coat_2 : decode cX9_coat 2 = .ok (.invokevirtual 84, 3) := by decide +kernel
theorem dX9_coat_5 : decode cX9_coat 5 = .ok (.astore_n 3, 1) := by decide +kernel
theorem dX9_coat_6 : decode cX9_coat 6 = .ok (.aload_n 3, 1) := by decide +kernel
theorem dX9_coat_7 : decode cX9_coat 7 = .ok (.ifnonnull 7, 3) := by decide +kernel
theorem dX9_coat_10 : decode cX9_coat 10 = .ok (.iconst (-1), 1) := by decide +kernel
theorem dX9_coat_11 : decode cX9_coat 11 = .ok (.goto 8, 3) := by decide +kernel
theorem dX9_coat_14 : decode cX9_coat 14 = .ok (.aload_n 3, 1) := by decide +kernel
theorem dX9_coat_15 : decode cX9_coat 15 = .ok (.iload_n 2, 1) := by decide +kernel
theorem dX9_coat_16 : decode cX9_coat 16 = .ok (.invokevirtual 88, 3) := by decide +kernel
theorem dX9_coat_19 : decode cX9_coat 19 = .ok (.ireturn, 1) := by decide +kernel
theorem dX9_deed_0 : decode cX9_deed 0 = .ok (.aload_n 0, 1) := by decide +kernel
theorem dX9_deed_1 : decode cX9_deed 1 = .ok (.iload_n 1, 1) := by decide +kernel
theorem dX9_deed_2 : decode cX9_deed 2 = .ok (.invokevirtual 93, 3) := by decide +kernel
theorem dX9_deed_5 : decode cX9_deed 5 = .ok (.astore 4, 2) := by decide +kernel
theorem dX9_deed_7 : decode cX9_deed 7 = .ok (.aload 4, 2) := by decide +kernel
theorem dX9_deed_9 : decode cX9_deed 9 = .ok (.ifnonnull 8, 3) := by decide +kernel
theorem dX9_deed_12 : decode cX9_deed 12 = .ok (.bipush (-2), 2) := by decide +kernel
theorem dX9_deed_14 : decode cX9_deed 14 = .ok (.goto 10, 3) := by decide +kernel
theorem dX9_deed_17 : decode cX9_deed 17 = .ok (.aload 4, 2) := by decide +kernel
theorem dX9_deed_19 : decode cX9_deed 19 = .ok (.iload_n 2, 1) := by decide +kernel
theorem dX9_deed_20 : decode cX9_deed 20 = .ok (.iload_n 3, 1) := by decide +kernel
theorem dX9_deed_21 : decode cX9_deed 21 = .ok (.invokevirtual 97, 3) := by decide +kernel
theorem dX9_deed_24 : decode cX9_deed 24 = .ok (.ireturn, 1) := by decide +kernel
theorem dX9_stop_0 : decode cX9_stop 0 = .ok (.aload_n 0, 1) := by decide +kernel
theorem dX9_stop_1 : decode cX9_stop 1 = .ok (.iload_n 1, 1) := by decide +kernel
theorem dX9_stop_2 : decode cX9_stop 2 = .ok (.invokevirtual 84, 3) := by decide +kernel
theorem dX9_stop_5 : decode cX9_stop 5 = .ok (.astore_n 3, 1) := by decide +kernel
theorem dX9_stop_6 : decode cX9_stop 6 = .ok (.aload_n 0, 1) := by decide +kernel
theorem dX9_stop_7 : decode cX9_stop 7 = .ok (.iload_n 2, 1) := by decide +kernel
theorem dX9_stop_8 : decode cX9_stop 8 = .ok (.invokevirtual 93, 3) := by decide +kernel
theorem dX9_stop_11 : decode cX9_stop 11 = .ok (.astore 4, 2) := by decide +kernel
theorem dX9_stop_13 : decode cX9_stop 13 = .ok (.aload_n 3, 1) := by decide +kernel
theorem dX9_stop_14 : decode cX9_stop 14 = .ok (.ifnull 8, 3) := by decide +kernel
theorem dX9_stop_17 : decode cX9_stop 17 = .ok (.aload 4, 2) := by decide +kernel
theorem dX9_stop_19 : decode cX9_stop 19 = .ok (.ifnonnull 7, 3) := by decide +kernel
theorem dX9_stop_22 : decode cX9_stop 22 = .ok (.iconst (-1), 1) := by decide +kernel
theorem dX9_stop_23 : decode cX9_stop 23 = .ok (.goto 18, 3) := by decide +kernel
theorem dX9_stop_26 : decode cX9_stop 26 = .ok (.aload_n 0, 1) := by decide +kernel
theorem dX9_stop_27 : decode cX9_stop 27 = .ok (.getfield 30, 3) := by decide +kernel
theorem dX9_stop_30 : decode cX9_stop 30 = .ok (.aload_n 3, 1) := by decide +kernel
theorem dX9_stop_31 : decode cX9_stop 31 = .ok (.aload 4, 2) := by decide +kernel
theorem dX9_stop_33 : decode cX9_stop 33 = .ok (.aload 4, 2) := by decide +kernel
theorem dX9_stop_35 : decode cX9_stop 35 = .ok (.getfield 102, 3) := by decide +kernel
theorem dX9_stop_38 : decode cX9_stop 38 = .ok (.invokevirtual 105, 3) := by decide +kernel
theorem dX9_stop_41 : decode cX9_stop 41 = .ok (.ireturn, 1) := by decide +kernel
theorem dX9_state_0 : decode cX9_state 0 = .ok (.aload_n 0, 1) := by decide +kernel
theorem dX9_state_1 : decode cX9_state 1 = .ok (.iload_n 1, 1) := by decide +kernel
theorem dX9_state_2 : decode cX9_state 2 = .ok (.invokevirtual 84, 3) := by decide +kernel
theorem dX9_state_5 : decode cX9_state 5 = .ok (.astore 5, 2) := by decide +kernel
theorem dX9_state_7 : decode cX9_state 7 = .ok (.aload_n 0, 1) := by decide +kernel
theorem dX9_state_8 : decode cX9_state 8 = .ok (.iload_n 2, 1) := by decide +kernel
theorem dX9_state_9 : decode cX9_state 9 = .ok (.invokevirtual 93, 3) := by decide +kernel
theorem dX9_state_12 : decode cX9_state 12 = .ok (.astore 6, 2) := by decide +kernel
theorem dX9_state_14 : decode cX9_state 14 = .ok (.aload 5, 2) := by decide +kernel
theorem dX9_state_16 : decode cX9_state 16 = .ok (.ifnull 37, 3) := by decide +kernel
theorem dX9_state_19 : decode cX9_state 19 = .ok (.aload 6, 2) := by decide +kernel
theorem dX9_state_21 : decode cX9_state 21 = .ok (.ifnull 32, 3) := by decide +kernel
theorem dX9_state_24 : decode cX9_state 24 = .ok (.iload_n 3, 1) := by decide +kernel
theorem dX9_state_25 : decode cX9_state 25 = .ok (.ifCond .lt 28, 3) := by decide +kernel
theorem dX9_state_28 : decode cX9_state 28 = .ok (.iload_n 3, 1) := by decide +kernel
theorem dX9_state_29 : decode cX9_state 29 = .ok (.aload 6, 2) := by decide +kernel
theorem dX9_state_31 : decode cX9_state 31 = .ok (.getfield 102, 3) := by decide +kernel
theorem dX9_state_34 : decode cX9_state 34 = .ok (.if_icmp .gt 19, 3) := by decide +kernel
theorem dX9_state_37 : decode cX9_state 37 = .ok (.aload_n 0, 1) := by decide +kernel
theorem dX9_state_38 : decode cX9_state 38 = .ok (.getfield 30, 3) := by decide +kernel
theorem dX9_state_41 : decode cX9_state 41 = .ok (.aload 5, 2) := by decide +kernel
theorem dX9_state_43 : decode cX9_state 43 = .ok (.aload 6, 2) := by decide +kernel
theorem dX9_state_45 : decode cX9_state 45 = .ok (.iload_n 3, 1) := by decide +kernel
theorem dX9_state_46 : decode cX9_state 46 = .ok (.invokevirtual 105, 3) := by decide +kernel
theorem dX9_state_49 : decode cX9_state 49 = .ok (.iload_n 3, 1) := by decide +kernel
theorem dX9_state_50 : decode cX9_state 50 = .ok (.if_icmp .ge 7, 3) := by decide +kernel
theorem dX9_state_53 : decode cX9_state 53 = .ok (.sipush (-1000), 3) := by decide +kernel
theorem dX9_state_56 : decode cX9_state 56 = .ok (.ireturn, 1) := by decide +kernel
theorem dX9_state_57 : decode cX9_state 57 = .ok (.aload_n 0, 1) := by decide +kernel
theorem dX9_state_58 : decode cX9_state 58 = .ok (.getfield 30, 3) := by decide +kernel
theorem dX9_state_61 : decode cX9_state 61 = .ok (.iload 4, 2) := by decide +kernel
theorem dX9_state_63 : decode cX9_state 63 = .ok (.invokevirtual 109, 3) := by decide +kernel
theorem dX9_state_66 : decode cX9_state 66 = .ok (.ireturn, 1) := by decide +kernel
theorem dX9_orders_0 : decode cX9_orders 0 = .ok (.aload_n 0, 1) := by decide +kernel
theorem dX9_orders_1 : decode cX9_orders 1 = .ok (.iload_n 1, 1) := by decide +kernel
theorem dX9_orders_2 : decode cX9_orders 2 = .ok (.invokevirtual 84, 3) := by decide +kernel
theorem dX9_orders_5 : decode cX9_orders 5 = .ok (.astore_n 2, 1) := by decide +kernel
theorem dX9_orders_6 : decode cX9_orders 6 = .ok (.aload_n 2, 1) := by decide +kernel
theorem dX9_orders_7 : decode cX9_orders 7 = .ok (.ifnonnull 7, 3) := by decide +kernel
theorem dX9_orders_10 : decode cX9_orders 10 = .ok (.ldc2_w 110, 3) := by decide +kernel
theorem dX9_orders_13 : decode cX9_orders 13 = .ok (.lreturn, 1) := by decide +kernel
theorem dX9_orders_14 : decode cX9_orders 14 = .ok (.aload_n 0, 1) := by decide +kernel
theorem dX9_orders_15 : decode cX9_orders 15 = .ok (.getfield 37, 3) := by decide +kernel
theorem dX9_orders_18 : decode cX9_orders 18 = .ok (.aload_n 2, 1) := by decide +kernel
theorem dX9_orders_19 : decode cX9_orders 19 = .ok (.invokevirtual 112, 3) := by decide +kernel
theorem dX9_orders_22 : decode cX9_orders 22 = .ok (.aload_n 0, 1) := by decide +kernel
theorem dX9_orders_23 : decode cX9_orders 23 = .ok (.getfield 37, 3) := by decide +kernel
theorem dX9_orders_26 : decode cX9_orders 26 = .ok (.invokevirtual 116, 3) := by decide +kernel
theorem dX9_orders_29 : decode cX9_orders 29 = .ok (.i2l, 1) := by decide +kernel
theorem dX9_orders_30 : decode cX9_orders 30 = .ok (.lreturn, 1) := by decide +kernel
theorem dX9_order_0 : decode cX9_order 0 = .ok (.aload_n 0, 1) := by decide +kernel
theorem dX9_order_1 : decode cX9_order 1 = .ok (.iload_n 1, 1) := by decide +kernel
theorem dX9_order_2 : decode cX9_order 2 = .ok (.invokevirtual 120, 3) := by decide +kernel
theorem dX9_order_5 : decode cX9_order 5 = .ok (.astore 4, 2) := by decide +kernel
theorem dX9_order_7 : decode cX9_order 7 = .ok (.aload 4, 2) := by decide +kernel
theorem dX9_order_9 : decode cX9_order 9 = .ok (.ifnull 16, 3) := by decide +kernel
theorem dX9_order_12 : decode cX9_order 12 = .ok (.iload_n 2, 1) := by decide +kernel
theorem dX9_order_13 : decode cX9_order 13 = .ok (.ifCond .lt 12, 3) := by decide +kernel
theorem dX9_order_16 : decode cX9_order 16 = .ok (.iload_n 2, 1) := by decide +kernel
theorem dX9_order_17 : decode cX9_order 17 = .ok (.aload 4, 2) := by decide +kernel
theorem dX9_order_19 : decode cX9_order 19 = .ok (.getfield 123, 3) := by decide +kernel
theorem dX9_order_22 : decode cX9_order 22 = .ok (.if_icmp .lt 5, 3) := by decide +kernel
theorem dX9_order_25 : decode cX9_order 25 = .ok (.iconst (-1), 1) := by decide +kernel
theorem dX9_order_26 : decode cX9_order 26 = .ok (.ireturn, 1) := by decide +kernel
theorem dX9_order_27 : decode cX9_order 27 = .ok (.iload_n 3, 1) := by decide +kernel
theorem dX9_order_28 : decode cX9_order 28 = .ok (.tableswitch 110 0 4 #[36, 46, 56, 74, 92], 36) := by decide +kernel
theorem dX9_order_64 : decode cX9_order 64 = .ok (.aload_n 0, 1) := by decide +kernel
theorem dX9_order_65 : decode cX9_order 65 = .ok (.getfield 37, 3) := by decide +kernel
theorem dX9_order_68 : decode cX9_order 68 = .ok (.getfield 126, 3) := by decide +kernel
theorem dX9_order_71 : decode cX9_order 71 = .ok (.iload_n 2, 1) := by decide +kernel
theorem dX9_order_72 : decode cX9_order 72 = .ok (.iaload, 1) := by decide +kernel
theorem dX9_order_73 : decode cX9_order 73 = .ok (.ireturn, 1) := by decide +kernel
theorem dX9_order_74 : decode cX9_order 74 = .ok (.aload 4, 2) := by decide +kernel
theorem dX9_order_76 : decode cX9_order 76 = .ok (.iload_n 2, 1) := by decide +kernel
theorem dX9_order_77 : decode cX9_order 77 = .ok (.invokevirtual 130, 3) := by decide +kernel
theorem dX9_order_80 : decode cX9_order 80 = .ok (.invokestatic 133, 3) := by decide +kernel
theorem dX9_order_83 : decode cX9_order 83 = .ok (.ireturn, 1) := by decide +kernel
theorem dX9_order_84 : decode cX9_order 84 = .ok (.aload 4, 2) := by decide +kernel
theorem dX9_order_86 : decode cX9_order 86 = .ok (.getfield 123, 3) := by decide +kernel
theorem dX9_order_89 : decode cX9_order 89 = .ok (.iconst 1, 1) := by decide +kernel
theorem dX9_order_90 : decode cX9_order 90 = .ok (.isub, 1) := by decide +kernel
theorem dX9_order_91 : decode cX9_order 91 = .ok (.aload 4, 2) := by decide +kernel
theorem dX9_order_93 : decode cX9_order 93 = .ok (.iload_n 2, 1) := by decide +kernel
theorem dX9_order_94 : decode cX9_order 94 = .ok (.invokevirtual 138, 3) := by decide +kernel
theorem dX9_order_97 : decode cX9_order 97 = .ok (.invokestatic 133, 3) := by decide +kernel
theorem dX9_order_100 : decode cX9_order 100 = .ok (.isub, 1) := by decide +kernel
theorem dX9_order_101 : decode cX9_order 101 = .ok (.ireturn, 1) := by decide +kernel
theorem dX9_order_102 : decode cX9_order 102 = .ok (.aload_n 0, 1) := by decide +kernel
theorem dX9_order_103 : decode cX9_order 103 = .ok (.getfield 37, 3) := by decide +kernel
theorem dX9_order_106 : decode cX9_order 106 = .ok (.invokevirtual 141, 3) := by decide +kernel
theorem dX9_order_109 : decode cX9_order 109 = .ok (.pop, 1) := by decide +kernel
theorem dX9_order_110 : decode cX9_order 110 = .ok (.aload_n 0, 1) := by decide +kernel
theorem dX9_order_111 : decode cX9_order 111 = .ok (.getfield 37, 3) := by decide +kernel
theorem dX9_order_114 : decode cX9_order 114 = .ok (.getfield 126, 3) := by decide +kernel
theorem dX9_order_117 : decode cX9_order 117 = .ok (.iload_n 2, 1) := by decide +kernel
theorem dX9_order_118 : decode cX9_order 118 = .ok (.iaload, 1) := by decide +kernel
theorem dX9_order_119 : decode cX9_order 119 = .ok (.ireturn, 1) := by decide +kernel
theorem dX9_order_120 : decode cX9_order 120 = .ok (.aload_n 0, 1) := by decide +kernel
theorem dX9_order_121 : decode cX9_order 121 = .ok (.getfield 37, 3) := by decide +kernel
theorem dX9_order_124 : decode cX9_order 124 = .ok (.invokevirtual 144, 3) := by decide +kernel
theorem dX9_order_127 : decode cX9_order 127 = .ok (.pop, 1) := by decide +kernel
theorem dX9_order_128 : decode cX9_order 128 = .ok (.aload_n 0, 1) := by decide +kernel
theorem dX9_order_129 : decode cX9_order 129 = .ok (.getfield 37, 3) := by decide +kernel
theorem dX9_order_132 : decode cX9_order 132 = .ok (.getfield 126, 3) := by decide +kernel
theorem dX9_order_135 : decode cX9_order 135 = .ok (.iload_n 2, 1) := by decide +kernel
theorem dX9_order_136 : decode cX9_order 136 = .ok (.iaload, 1) := by decide +kernel
theorem dX9_order_137 : decode cX9_order 137 = .ok (.ireturn, 1) := by decide +kernel
theorem dX9_order_138 : decode cX9_order 138 = .ok (.iconst (-1), 1) := by decide +kernel
theorem dX9_order_139 : decode cX9_order 139 = .ok (.ireturn, 1) := by decide +kernel
theorem dX9_sewn_0 : decode cX9_sewn 0 = .ok (.aload_n 0, 1) := by decide +kernel
theorem dX9_sewn_1 : decode cX9_sewn 1 = .ok (.iload_n 1, 1) := by decide +kernel
theorem dX9_sewn_2 : decode cX9_sewn 2 = .ok (.invokevirtual 120, 3) := by decide +kernel
theorem dX9_sewn_5 : decode cX9_sewn 5 = .ok (.astore_n 3, 1) := by decide +kernel
theorem dX9_sewn_6 : decode cX9_sewn 6 = .ok (.aload_n 3, 1) := by decide +kernel
theorem dX9_sewn_7 : decode cX9_sewn 7 = .ok (.ifnonnull 5, 3) := by decide +kernel
theorem dX9_sewn_10 : decode cX9_sewn 10 = .ok (.iconst (-1), 1) := by decide +kernel
theorem dX9_sewn_11 : decode cX9_sewn 11 = .ok (.ireturn, 1) := by decide +kernel
theorem dX9_sewn_12 : decode cX9_sewn 12 = .ok (.iload_n 2, 1) := by decide +kernel
theorem dX9_sewn_13 : decode cX9_sewn 13 = .ok (.tableswitch 68 0 3 #[31, 39, 47, 56], 31) := by decide +kernel
theorem dX9_sewn_44 : decode cX9_sewn 44 = .ok (.aload_n 0, 1) := by decide +kernel
theorem dX9_sewn_45 : decode cX9_sewn 45 = .ok (.getfield 37, 3) := by decide +kernel
theorem dX9_sewn_48 : decode cX9_sewn 48 = .ok (.invokevirtual 141, 3) := by decide +kernel
theorem dX9_sewn_51 : decode cX9_sewn 51 = .ok (.ireturn, 1) := by decide +kernel
theorem dX9_sewn_52 : decode cX9_sewn 52 = .ok (.aload_n 0, 1) := by decide +kernel
theorem dX9_sewn_53 : decode cX9_sewn 53 = .ok (.getfield 37, 3) := by decide +kernel
theorem dX9_sewn_56 : decode cX9_sewn 56 = .ok (.invokevirtual 144, 3) := by decide +kernel
theorem dX9_sewn_59 : decode cX9_sewn 59 = .ok (.ireturn, 1) := by decide +kernel
theorem dX9_sewn_60 : decode cX9_sewn 60 = .ok (.aload_n 0, 1) := by decide +kernel
theorem dX9_sewn_61 : decode cX9_sewn 61 = .ok (.getfield 37, 3) := by decide +kernel
theorem dX9_sewn_64 : decode cX9_sewn 64 = .ok (.iconst 1, 1) := by decide +kernel
theorem dX9_sewn_65 : decode cX9_sewn 65 = .ok (.invokevirtual 147, 3) := by decide +kernel
theorem dX9_sewn_68 : decode cX9_sewn 68 = .ok (.ireturn, 1) := by decide +kernel
theorem dX9_sewn_69 : decode cX9_sewn 69 = .ok (.aload_n 0, 1) := by decide +kernel
theorem dX9_sewn_70 : decode cX9_sewn 70 = .ok (.getfield 37, 3) := by decide +kernel
theorem dX9_sewn_73 : decode cX9_sewn 73 = .ok (.aload_n 3, 1) := by decide +kernel
theorem dX9_sewn_74 : decode cX9_sewn 74 = .ok (.getfield 150, 3) := by decide +kernel
theorem dX9_sewn_77 : decode cX9_sewn 77 = .ok (.invokevirtual 147, 3) := by decide +kernel
theorem dX9_sewn_80 : decode cX9_sewn 80 = .ok (.ireturn, 1) := by decide +kernel
theorem dX9_sewn_81 : decode cX9_sewn 81 = .ok (.iconst (-1), 1) := by decide +kernel
theorem dX9_sewn_82 : decode cX9_sewn 82 = .ok (.ireturn, 1) := by decide +kernel
theorem dX9_parted_0 : decode cX9_parted 0 = .ok (.aload_n 0, 1) := by decide +kernel
theorem dX9_parted_1 : decode cX9_parted 1 = .ok (.iload_n 1, 1) := by decide +kernel
theorem dX9_parted_2 : decode cX9_parted 2 = .ok (.invokevirtual 84, 3) := by decide +kernel
theorem dX9_parted_5 : decode cX9_parted 5 = .ok (.astore 5, 2) := by decide +kernel
theorem dX9_parted_7 : decode cX9_parted 7 = .ok (.aload 5, 2) := by decide +kernel
theorem dX9_parted_9 : decode cX9_parted 9 = .ok (.ifnull 26, 3) := by decide +kernel
theorem dX9_parted_12 : decode cX9_parted 12 = .ok (.iload_n 2, 1) := by decide +kernel
theorem dX9_parted_13 : decode cX9_parted 13 = .ok (.iload_n 3, 1) := by decide +kernel
theorem dX9_parted_14 : decode cX9_parted 14 = .ok (.if_icmp .eq 21, 3) := by decide +kernel
theorem dX9_parted_17 : decode cX9_parted 17 = .ok (.aload 5, 2) := by decide +kernel
theorem dX9_parted_19 : decode cX9_parted 19 = .ok (.iload_n 2, 1) := by decide +kernel
theorem dX9_parted_20 : decode cX9_parted 20 = .ok (.invokevirtual 153, 3) := by decide +kernel
theorem dX9_parted_23 : decode cX9_parted 23 = .ok (.ifCond .eq 12, 3) := by decide +kernel
theorem dX9_parted_26 : decode cX9_parted 26 = .ok (.aload 5, 2) := by decide +kernel
theorem dX9_parted_28 : decode cX9_parted 28 = .ok (.iload_n 3, 1) := by decide +kernel
theorem dX9_parted_29 : decode cX9_parted 29 = .ok (.invokevirtual 153, 3) := by decide +kernel
theorem dX9_parted_32 : decode cX9_parted 32 = .ok (.ifCond .ne 5, 3) := by decide +kernel
theorem dX9_parted_35 : decode cX9_parted 35 = .ok (.iconst (-1), 1) := by decide +kernel
theorem dX9_parted_36 : decode cX9_parted 36 = .ok (.ireturn, 1) := by decide +kernel
theorem dX9_parted_37 : decode cX9_parted 37 = .ok (.ldc 157, 2) := by decide +kernel
theorem dX9_parted_39 : decode cX9_parted 39 = .ok (.istore 6, 2) := by decide +kernel
theorem dX9_parted_41 : decode cX9_parted 41 = .ok (.iconst 0, 1) := by decide +kernel
theorem dX9_parted_42 : decode cX9_parted 42 = .ok (.istore 7, 2) := by decide +kernel
theorem dX9_parted_44 : decode cX9_parted 44 = .ok (.iconst 0, 1) := by decide +kernel
theorem dX9_parted_45 : decode cX9_parted 45 = .ok (.istore 8, 2) := by decide +kernel
theorem dX9_parted_47 : decode cX9_parted 47 = .ok (.iload 8, 2) := by decide +kernel
theorem dX9_parted_49 : decode cX9_parted 49 = .ok (.iconst 1, 1) := by decide +kernel
theorem dX9_parted_50 : decode cX9_parted 50 = .ok (.aload 5, 2) := by decide +kernel
theorem dX9_parted_52 : decode cX9_parted 52 = .ok (.getfield 123, 3) := by decide +kernel
theorem dX9_parted_55 : decode cX9_parted 55 = .ok (.ishl, 1) := by decide +kernel
theorem dX9_parted_56 : decode cX9_parted 56 = .ok (.if_icmp .ge 52, 3) := by decide +kernel
theorem dX9_parted_59 : decode cX9_parted 59 = .ok (.iload 8, 2) := by decide +kernel
theorem dX9_parted_61 : decode cX9_parted 61 = .ok (.iload_n 2, 1) := by decide +kernel
theorem dX9_parted_62 : decode cX9_parted 62 = .ok (.ishr, 1) := by decide +kernel
theorem dX9_parted_63 : decode cX9_parted 63 = .ok (.iconst 1, 1) := by decide +kernel
theorem dX9_parted_64 : decode cX9_parted 64 = .ok (.iand, 1) := by decide +kernel
theorem dX9_parted_65 : decode cX9_parted 65 = .ok (.iconst 1, 1) := by decide +kernel
theorem dX9_parted_66 : decode cX9_parted 66 = .ok (.if_icmp .ne 36, 3) := by decide +kernel
theorem dX9_parted_69 : decode cX9_parted 69 = .ok (.iload 8, 2) := by decide +kernel
theorem dX9_parted_71 : decode cX9_parted 71 = .ok (.iload_n 3, 1) := by decide +kernel
theorem dX9_parted_72 : decode cX9_parted 72 = .ok (.ishr, 1) := by decide +kernel
theorem dX9_parted_73 : decode cX9_parted 73 = .ok (.iconst 1, 1) := by decide +kernel
theorem dX9_parted_74 : decode cX9_parted 74 = .ok (.iand, 1) := by decide +kernel
theorem dX9_parted_75 : decode cX9_parted 75 = .ok (.ifCond .ne 27, 3) := by decide +kernel
theorem dX9_parted_78 : decode cX9_parted 78 = .ok (.aload 5, 2) := by decide +kernel
theorem dX9_parted_80 : decode cX9_parted 80 = .ok (.iload 8, 2) := by decide +kernel
theorem dX9_parted_82 : decode cX9_parted 82 = .ok (.invokevirtual 158, 3) := by decide +kernel
theorem dX9_parted_85 : decode cX9_parted 85 = .ok (.istore 9, 2) := by decide +kernel
theorem dX9_parted_87 : decode cX9_parted 87 = .ok (.iload 9, 2) := by decide +kernel
theorem dX9_parted_89 : decode cX9_parted 89 = .ok (.iload 6, 2) := by decide +kernel
theorem dX9_parted_91 : decode cX9_parted 91 = .ok (.if_icmp .ge 11, 3) := by decide +kernel
theorem dX9_parted_94 : decode cX9_parted 94 = .ok (.iload 9, 2) := by decide +kernel
theorem dX9_parted_96 : decode cX9_parted 96 = .ok (.istore 6, 2) := by decide +kernel
theorem dX9_parted_98 : decode cX9_parted 98 = .ok (.iload 8, 2) := by decide +kernel
theorem dX9_parted_100 : decode cX9_parted 100 = .ok (.istore 7, 2) := by decide +kernel
theorem dX9_parted_102 : decode cX9_parted 102 = .ok (.iinc 8 1, 3) := by decide +kernel
theorem dX9_parted_105 : decode cX9_parted 105 = .ok (.goto (-58), 3) := by decide +kernel
theorem dX9_parted_108 : decode cX9_parted 108 = .ok (.iload 4, 2) := by decide +kernel
theorem dX9_parted_110 : decode cX9_parted 110 = .ok (.ifCond .eq 8, 3) := by decide +kernel
theorem dX9_parted_113 : decode cX9_parted 113 = .ok (.iload 7, 2) := by decide +kernel
theorem dX9_parted_115 : decode cX9_parted 115 = .ok (.goto 5, 3) := by decide +kernel
theorem dX9_parted_118 : decode cX9_parted 118 = .ok (.iload 6, 2) := by decide +kernel
theorem dX9_parted_120 : decode cX9_parted 120 = .ok (.ireturn, 1) := by decide +kernel
theorem dX9_town_0 : decode cX9_town 0 = .ok (.aload_n 0, 1) := by decide +kernel
theorem dX9_town_1 : decode cX9_town 1 = .ok (.iload_n 1, 1) := by decide +kernel
theorem dX9_town_2 : decode cX9_town 2 = .ok (.invokevirtual 161, 3) := by decide +kernel
theorem dX9_town_5 : decode cX9_town 5 = .ok (.astore_n 3, 1) := by decide +kernel
theorem dX9_town_6 : decode cX9_town 6 = .ok (.aload_n 3, 1) := by decide +kernel
theorem dX9_town_7 : decode cX9_town 7 = .ok (.ifnonnull 8, 3) := by decide +kernel
theorem dX9_town_10 : decode cX9_town 10 = .ok (.bipush (-2), 2) := by decide +kernel
theorem dX9_town_12 : decode cX9_town 12 = .ok (.goto 8, 3) := by decide +kernel
theorem dX9_town_15 : decode cX9_town 15 = .ok (.aload_n 3, 1) := by decide +kernel
theorem dX9_town_16 : decode cX9_town 16 = .ok (.iload_n 2, 1) := by decide +kernel
theorem dX9_town_17 : decode cX9_town 17 = .ok (.invokevirtual 165, 3) := by decide +kernel
theorem dX9_town_20 : decode cX9_town 20 = .ok (.ireturn, 1) := by decide +kernel
theorem dX9_done_0 : decode cX9_done 0 = .ok (.aload_n 0, 1) := by decide +kernel
theorem dX9_done_1 : decode cX9_done 1 = .ok (.iload_n 1, 1) := by decide +kernel
theorem dX9_done_2 : decode cX9_done 2 = .ok (.invokevirtual 161, 3) := by decide +kernel
theorem dX9_done_5 : decode cX9_done 5 = .ok (.astore 5, 2) := by decide +kernel
theorem dX9_done_7 : decode cX9_done 7 = .ok (.aload 5, 2) := by decide +kernel
theorem dX9_done_9 : decode cX9_done 9 = .ok (.ifnull 29, 3) := by decide +kernel
theorem dX9_done_12 : decode cX9_done 12 = .ok (.iload_n 3, 1) := by decide +kernel
theorem dX9_done_13 : decode cX9_done 13 = .ok (.iconst 1, 1) := by decide +kernel
theorem dX9_done_14 : decode cX9_done 14 = .ok (.if_icmp .lt 24, 3) := by decide +kernel
theorem dX9_done_17 : decode cX9_done 17 = .ok (.iload_n 3, 1) := by decide +kernel
theorem dX9_done_18 : decode cX9_done 18 = .ok (.bipush 6, 2) := by decide +kernel
theorem dX9_done_20 : decode cX9_done 20 = .ok (.if_icmp .gt 18, 3) := by decide +kernel
theorem dX9_done_23 : decode cX9_done 23 = .ok (.iload 4, 2) := by decide +kernel
theorem dX9_done_25 : decode cX9_done 25 = .ok (.ifCond .lt 13, 3) := by decide +kernel
theorem dX9_done_28 : decode cX9_done 28 = .ok (.iload 4, 2) := by decide +kernel
theorem dX9_done_30 : decode cX9_done 30 = .ok (.iload_n 3, 1) := by decide +kernel
theorem dX9_done_31 : decode cX9_done 31 = .ok (.if_icmp .ge 7, 3) := by decide +kernel
theorem dX9_done_34 : decode cX9_done 34 = .ok (.iload_n 2, 1) := by decide +kernel
theorem dX9_done_35 : decode cX9_done 35 = .ok (.ifCond .ge 5, 3) := by decide +kernel
theorem dX9_done_38 : decode cX9_done 38 = .ok (.iconst (-1), 1) := by decide +kernel
theorem dX9_done_39 : decode cX9_done 39 = .ok (.ireturn, 1) := by decide +kernel
theorem dX9_done_40 : decode cX9_done 40 = .ok (.iconst 1, 1) := by decide +kernel
theorem dX9_done_41 : decode cX9_done 41 = .ok (.istore 6, 2) := by decide +kernel
theorem dX9_done_43 : decode cX9_done 43 = .ok (.iconst 1, 1) := by decide +kernel
theorem dX9_done_44 : decode cX9_done 44 = .ok (.istore 7, 2) := by decide +kernel
theorem dX9_done_46 : decode cX9_done 46 = .ok (.iload 7, 2) := by decide +kernel
theorem dX9_done_48 : decode cX9_done 48 = .ok (.iload_n 3, 1) := by decide +kernel
theorem dX9_done_49 : decode cX9_done 49 = .ok (.if_icmp .ge 16, 3) := by decide +kernel
theorem dX9_done_52 : decode cX9_done 52 = .ok (.iload 6, 2) := by decide +kernel
theorem dX9_done_54 : decode cX9_done 54 = .ok (.bipush 6, 2) := by decide +kernel
theorem dX9_done_56 : decode cX9_done 56 = .ok (.imul, 1) := by decide +kernel
theorem dX9_done_57 : decode cX9_done 57 = .ok (.istore 6, 2) := by decide +kernel
theorem dX9_done_59 : decode cX9_done 59 = .ok (.iinc 7 1, 3) := by decide +kernel
theorem dX9_done_62 : decode cX9_done 62 = .ok (.goto (-16), 3) := by decide +kernel
theorem dX9_done_65 : decode cX9_done 65 = .ok (.iload_n 2, 1) := by decide +kernel
theorem dX9_done_66 : decode cX9_done 66 = .ok (.iload 6, 2) := by decide +kernel
theorem dX9_done_68 : decode cX9_done 68 = .ok (.idiv, 1) := by decide +kernel
theorem dX9_done_69 : decode cX9_done 69 = .ok (.bipush 6, 2) := by decide +kernel
theorem dX9_done_71 : decode cX9_done 71 = .ok (.if_icmp .lt 5, 3) := by decide +kernel
theorem dX9_done_74 : decode cX9_done 74 = .ok (.iconst (-1), 1) := by decide +kernel
theorem dX9_done_75 : decode cX9_done 75 = .ok (.ireturn, 1) := by decide +kernel
theorem dX9_done_76 : decode cX9_done 76 = .ok (.aload_n 0, 1) := by decide +kernel
theorem dX9_done_77 : decode cX9_done 77 = .ok (.getfield 44, 3) := by decide +kernel
theorem dX9_done_80 : decode cX9_done 80 = .ok (.aload 5, 2) := by decide +kernel
theorem dX9_done_82 : decode cX9_done 82 = .ok (.aload 5, 2) := by decide +kernel
theorem dX9_done_84 : decode cX9_done 84 = .ok (.getfield 168, 3) := by decide +kernel
theorem dX9_done_87 : decode cX9_done 87 = .ok (.aload 5, 2) := by decide +kernel
theorem dX9_done_89 : decode cX9_done 89 = .ok (.getfield 171, 3) := by decide +kernel
theorem dX9_done_92 : decode cX9_done 92 = .ok (.invokevirtual 174, 3) := by decide +kernel
theorem dX9_done_95 : decode cX9_done 95 = .ok (.iconst 0, 1) := by decide +kernel
theorem dX9_done_96 : decode cX9_done 96 = .ok (.istore 7, 2) := by decide +kernel
theorem dX9_done_98 : decode cX9_done 98 = .ok (.iload 7, 2) := by decide +kernel
theorem dX9_done_100 : decode cX9_done 100 = .ok (.iload_n 3, 1) := by decide +kernel
theorem dX9_done_101 : decode cX9_done 101 = .ok (.if_icmp .ge 40, 3) := by decide +kernel
theorem dX9_done_104 : decode cX9_done 104 = .ok (.iload 6, 2) := by decide +kernel
theorem dX9_done_106 : decode cX9_done 106 = .ok (.ifCond .le 35, 3) := by decide +kernel
theorem dX9_done_109 : decode cX9_done 109 = .ok (.aload_n 0, 1) := by decide +kernel
theorem dX9_done_110 : decode cX9_done 110 = .ok (.getfield 44, 3) := by decide +kernel
theorem dX9_done_113 : decode cX9_done 113 = .ok (.iload_n 2, 1) := by decide +kernel
theorem dX9_done_114 : decode cX9_done 114 = .ok (.iload 6, 2) := by decide +kernel
theorem dX9_done_116 : decode cX9_done 116 = .ok (.idiv, 1) := by decide +kernel
theorem dX9_done_117 : decode cX9_done 117 = .ok (.bipush 6, 2) := by decide +kernel
theorem dX9_done_119 : decode cX9_done 119 = .ok (.irem, 1) := by decide +kernel
theorem dX9_done_120 : decode cX9_done 120 = .ok (.invokevirtual 178, 3) := by decide +kernel
theorem dX9_done_123 : decode cX9_done 123 = .ok (.ifCond .ne 5, 3) := by decide +kernel
theorem dX9_done_126 : decode cX9_done 126 = .ok (.iconst (-1), 1) := by decide +kernel
theorem dX9_done_127 : decode cX9_done 127 = .ok (.ireturn, 1) := by decide +kernel
theorem dX9_done_128 : decode cX9_done 128 = .ok (.iload 6, 2) := by decide +kernel
theorem dX9_done_130 : decode cX9_done 130 = .ok (.bipush 6, 2) := by decide +kernel
theorem dX9_done_132 : decode cX9_done 132 = .ok (.idiv, 1) := by decide +kernel
theorem dX9_done_133 : decode cX9_done 133 = .ok (.istore 6, 2) := by decide +kernel
theorem dX9_done_135 : decode cX9_done 135 = .ok (.iinc 7 1, 3) := by decide +kernel
theorem dX9_done_138 : decode cX9_done 138 = .ok (.goto (-40), 3) := by decide +kernel
theorem dX9_done_141 : decode cX9_done 141 = .ok (.aload_n 0, 1) := by decide +kernel
theorem dX9_done_142 : decode cX9_done 142 = .ok (.getfield 44, 3) := by decide +kernel
theorem dX9_done_145 : decode cX9_done 145 = .ok (.getfield 181, 3) := by decide +kernel
theorem dX9_done_148 : decode cX9_done 148 = .ok (.iload 4, 2) := by decide +kernel
theorem dX9_done_150 : decode cX9_done 150 = .ok (.iaload, 1) := by decide +kernel
theorem dX9_done_151 : decode cX9_done 151 = .ok (.ireturn, 1) := by decide +kernel
theorem dX9_rounds_0 : decode cX9_rounds 0 = .ok (.aload_n 0, 1) := by decide +kernel
theorem dX9_rounds_1 : decode cX9_rounds 1 = .ok (.iload_n 1, 1) := by decide +kernel
theorem dX9_rounds_2 : decode cX9_rounds 2 = .ok (.invokevirtual 161, 3) := by decide +kernel
theorem dX9_rounds_5 : decode cX9_rounds 5 = .ok (.astore_n 3, 1) := by decide +kernel
theorem dX9_rounds_6 : decode cX9_rounds 6 = .ok (.aload_n 3, 1) := by decide +kernel
theorem dX9_rounds_7 : decode cX9_rounds 7 = .ok (.ifnonnull 5, 3) := by decide +kernel
theorem dX9_rounds_10 : decode cX9_rounds 10 = .ok (.iconst (-1), 1) := by decide +kernel
theorem dX9_rounds_11 : decode cX9_rounds 11 = .ok (.ireturn, 1) := by decide +kernel
theorem dX9_rounds_12 : decode cX9_rounds 12 = .ok (.aload_n 0, 1) := by decide +kernel
theorem dX9_rounds_13 : decode cX9_rounds 13 = .ok (.getfield 44, 3) := by decide +kernel
theorem dX9_rounds_16 : decode cX9_rounds 16 = .ok (.aload_n 3, 1) := by decide +kernel
theorem dX9_rounds_17 : decode cX9_rounds 17 = .ok (.aload_n 3, 1) := by decide +kernel
theorem dX9_rounds_18 : decode cX9_rounds 18 = .ok (.getfield 168, 3) := by decide +kernel
theorem dX9_rounds_21 : decode cX9_rounds 21 = .ok (.aload_n 3, 1) := by decide +kernel
theorem dX9_rounds_22 : decode cX9_rounds 22 = .ok (.getfield 171, 3) := by decide +kernel
theorem dX9_rounds_25 : decode cX9_rounds 25 = .ok (.invokevirtual 174, 3) := by decide +kernel
theorem dX9_rounds_28 : decode cX9_rounds 28 = .ok (.iload_n 2, 1) := by decide +kernel
theorem dX9_rounds_29 : decode cX9_rounds 29 = .ok (.ifCond .ne 11, 3) := by decide +kernel
theorem dX9_rounds_32 : decode cX9_rounds 32 = .ok (.aload_n 0, 1) := by decide +kernel
theorem dX9_rounds_33 : decode cX9_rounds 33 = .ok (.getfield 44, 3) := by decide +kernel
theorem dX9_rounds_36 : decode cX9_rounds 36 = .ok (.invokevirtual 184, 3) := by decide +kernel
theorem dX9_rounds_39 : decode cX9_rounds 39 = .ok (.ireturn, 1) := by decide +kernel
theorem dX9_rounds_40 : decode cX9_rounds 40 = .ok (.iload_n 2, 1) := by decide +kernel
theorem dX9_rounds_41 : decode cX9_rounds 41 = .ok (.bipush 10, 2) := by decide +kernel
theorem dX9_rounds_43 : decode cX9_rounds 43 = .ok (.irem, 1) := by decide +kernel
theorem dX9_rounds_44 : decode cX9_rounds 44 = .ok (.istore 4, 2) := by decide +kernel
theorem dX9_rounds_46 : decode cX9_rounds 46 = .ok (.iload_n 2, 1) := by decide +kernel
theorem dX9_rounds_47 : decode cX9_rounds 47 = .ok (.bipush 10, 2) := by decide +kernel
theorem dX9_rounds_49 : decode cX9_rounds 49 = .ok (.if_icmp .lt 43, 3) := by decide +kernel
theorem dX9_rounds_52 : decode cX9_rounds 52 = .ok (.iload_n 2, 1) := by decide +kernel
theorem dX9_rounds_53 : decode cX9_rounds 53 = .ok (.bipush 20, 2) := by decide +kernel
theorem dX9_rounds_55 : decode cX9_rounds 55 = .ok (.if_icmp .ge 37, 3) := by decide +kernel
theorem dX9_rounds_58 : decode cX9_rounds 58 = .ok (.iload 4, 2) := by decide +kernel
