theorem dX10_cloth_117 : decode cX10_cloth 117 = .ok (.iload_n 3, 1) := by decide +kernel
theorem dX10_cloth_118 : decode cX10_cloth 118 = .ok (.iload 4, 2) := by decide +kernel
theorem dX10_cloth_120 : decode cX10_cloth 120 = .ok (.iload 6, 2) := by decide +kernel
theorem dX10_cloth_122 : decode cX10_cloth 122 = .ok (.invokestatic 497, 3) := by decide +kernel
theorem dX10_cloth_125 : decode cX10_cloth 125 = .ok (.invokestatic 501, 3) := by decide +kernel
theorem dX10_cloth_128 : decode cX10_cloth 128 = .ok (.lstore 7, 2) := by decide +kernel
theorem dX10_cloth_130 : decode cX10_cloth 130 = .ok (.iload 5, 2) := by decide +kernel
theorem dX10_cloth_132 : decode cX10_cloth 132 = .ok (.ifCond .ne 9, 3) := by decide +kernel
theorem dX10_cloth_135 : decode cX10_cloth 135 = .ok (.iload 6, 2) := by decide +kernel
theorem dX10_cloth_137 : decode cX10_cloth 137 = .ok (.i2l, 1) := by decide +kernel
theorem dX10_cloth_138 : decode cX10_cloth 138 = .ok (.goto 32, 3) := by decide +kernel
theorem dX10_cloth_141 : decode cX10_cloth 141 = .ok (.iload 5, 2) := by decide +kernel
theorem dX10_cloth_143 : decode cX10_cloth 143 = .ok (.iconst 1, 1) := by decide +kernel
theorem dX10_cloth_144 : decode cX10_cloth 144 = .ok (.if_icmp .ne 19, 3) := by decide +kernel
theorem dX10_cloth_147 : decode cX10_cloth 147 = .ok (.iload_n 1, 1) := by decide +kernel
theorem dX10_cloth_148 : decode cX10_cloth 148 = .ok (.iload_n 2, 1) := by decide +kernel
theorem dX10_cloth_149 : decode cX10_cloth 149 = .ok (.iload_n 3, 1) := by decide +kernel
theorem dX10_cloth_150 : decode cX10_cloth 150 = .ok (.iload 4, 2) := by decide +kernel
theorem dX10_cloth_152 : decode cX10_cloth 152 = .ok (.iload 6, 2) := by decide +kernel
theorem dX10_cloth_154 : decode cX10_cloth 154 = .ok (.invokestatic 497, 3) := by decide +kernel
theorem dX10_cloth_157 : decode cX10_cloth 157 = .ok (.lload 7, 2) := by decide +kernel
theorem dX10_cloth_159 : decode cX10_cloth 159 = .ok (.ldiv, 1) := by decide +kernel
theorem dX10_cloth_160 : decode cX10_cloth 160 = .ok (.goto 10, 3) := by decide +kernel
theorem dX10_cloth_163 : decode cX10_cloth 163 = .ok (.iload_n 1, 1) := by decide +kernel
theorem dX10_cloth_164 : decode cX10_cloth 164 = .ok (.invokestatic 489, 3) := by decide +kernel
theorem dX10_cloth_167 : decode cX10_cloth 167 = .ok (.lload 7, 2) := by decide +kernel
theorem dX10_cloth_169 : decode cX10_cloth 169 = .ok (.ldiv, 1) := by decide +kernel
theorem dX10_cloth_170 : decode cX10_cloth 170 = .ok (.lreturn, 1) := by decide +kernel
theorem dX10_facts_0 : decode cX10_facts 0 = .ok (.aload_n 0, 1) := by decide +kernel
theorem dX10_facts_1 : decode cX10_facts 1 = .ok (.getfield 35, 3) := by decide +kernel
theorem dX10_facts_4 : decode cX10_facts 4 = .ok (.bipush 31, 2) := by decide +kernel
theorem dX10_facts_6 : decode cX10_facts 6 = .ok (.aload_n 0, 1) := by decide +kernel
theorem dX10_facts_7 : decode cX10_facts 7 = .ok (.getfield 505, 3) := by decide +kernel
theorem dX10_facts_10 : decode cX10_facts 10 = .ok (.imul, 1) := by decide +kernel
theorem dX10_facts_11 : decode cX10_facts 11 = .ok (.iaload, 1) := by decide +kernel
theorem dX10_facts_12 : decode cX10_facts 12 = .ok (.ireturn, 1) := by decide +kernel
theorem dX10_factOf_0 : decode cX10_factOf 0 = .ok (.aload_n 0, 1) := by decide +kernel
theorem dX10_factOf_1 : decode cX10_factOf 1 = .ok (.getfield 35, 3) := by decide +kernel
theorem dX10_factOf_4 : decode cX10_factOf 4 = .ok (.bipush 31, 2) := by decide +kernel
theorem dX10_factOf_6 : decode cX10_factOf 6 = .ok (.aload_n 0, 1) := by decide +kernel
theorem dX10_factOf_7 : decode cX10_factOf 7 = .ok (.getfield 505, 3) := by decide +kernel
theorem dX10_factOf_10 : decode cX10_factOf 10 = .ok (.imul, 1) := by decide +kernel
theorem dX10_factOf_11 : decode cX10_factOf 11 = .ok (.iconst 1, 1) := by decide +kernel
theorem dX10_factOf_12 : decode cX10_factOf 12 = .ok (.iadd, 1) := by decide +kernel
theorem dX10_factOf_13 : decode cX10_factOf 13 = .ok (.iconst 3, 1) := by decide +kernel
theorem dX10_factOf_14 : decode cX10_factOf 14 = .ok (.iload_n 1, 1) := by decide +kernel
theorem dX10_factOf_15 : decode cX10_factOf 15 = .ok (.imul, 1) := by decide +kernel
theorem dX10_factOf_16 : decode cX10_factOf 16 = .ok (.iadd, 1) := by decide +kernel
theorem dX10_factOf_17 : decode cX10_factOf 17 = .ok (.iload_n 2, 1) := by decide +kernel
theorem dX10_factOf_18 : decode cX10_factOf 18 = .ok (.iadd, 1) := by decide +kernel
theorem dX10_factOf_19 : decode cX10_factOf 19 = .ok (.iaload, 1) := by decide +kernel
theorem dX10_factOf_20 : decode cX10_factOf 20 = .ok (.ireturn, 1) := by decide +kernel
theorem dX10_hasSight_0 : decode cX10_hasSight 0 = .ok (.aload_n 0, 1) := by decide +kernel
theorem dX10_hasSight_1 : decode cX10_hasSight 1 = .ok (.iload_n 1, 1) := by decide +kernel
theorem dX10_hasSight_2 : decode cX10_hasSight 2 = .ok (.putfield 505, 3) := by decide +kernel
theorem dX10_hasSight_5 : decode cX10_hasSight 5 = .ok (.aload_n 0, 1) := by decide +kernel
theorem dX10_hasSight_6 : decode cX10_hasSight 6 = .ok (.iconst 3, 1) := by decide +kernel
theorem dX10_hasSight_7 : decode cX10_hasSight 7 = .ok (.iload_n 1, 1) := by decide +kernel
theorem dX10_hasSight_8 : decode cX10_hasSight 8 = .ok (.invokevirtual 265, 3) := by decide +kernel
theorem dX10_hasSight_11 : decode cX10_hasSight 11 = .ok (.ireturn, 1) := by decide +kernel
theorem dX10_fact_0 : decode cX10_fact 0 = .ok (.aload_n 0, 1) := by decide +kernel
theorem dX10_fact_1 : decode cX10_fact 1 = .ok (.iconst 0, 1) := by decide +kernel
theorem dX10_fact_2 : decode cX10_fact 2 = .ok (.putfield 94, 3) := by decide +kernel
theorem dX10_fact_5 : decode cX10_fact 5 = .ok (.aload_n 0, 1) := by decide +kernel
theorem dX10_fact_6 : decode cX10_fact 6 = .ok (.iload_n 1, 1) := by decide +kernel
theorem dX10_fact_7 : decode cX10_fact 7 = .ok (.invokevirtual 508, 3) := by decide +kernel
theorem dX10_fact_10 : decode cX10_fact 10 = .ok (.ifCond .ne 6, 3) := by decide +kernel
theorem dX10_fact_13 : decode cX10_fact 13 = .ok (.bipush (-2), 2) := by decide +kernel
theorem dX10_fact_15 : decode cX10_fact 15 = .ok (.ireturn, 1) := by decide +kernel
theorem dX10_fact_16 : decode cX10_fact 16 = .ok (.iload_n 2, 1) := by decide +kernel
theorem dX10_fact_17 : decode cX10_fact 17 = .ok (.iconst (-1), 1) := by decide +kernel
theorem dX10_fact_18 : decode cX10_fact 18 = .ok (.if_icmp .ne 17, 3) := by decide +kernel
theorem dX10_fact_21 : decode cX10_fact 21 = .ok (.iload_n 3, 1) := by decide +kernel
theorem dX10_fact_22 : decode cX10_fact 22 = .ok (.ifCond .ne 10, 3) := by decide +kernel
theorem dX10_fact_25 : decode cX10_fact 25 = .ok (.aload_n 0, 1) := by decide +kernel
theorem dX10_fact_26 : decode cX10_fact 26 = .ok (.invokevirtual 511, 3) := by decide +kernel
theorem dX10_fact_29 : decode cX10_fact 29 = .ok (.goto 5, 3) := by decide +kernel
theorem dX10_fact_32 : decode cX10_fact 32 = .ok (.bipush (-2), 2) := by decide +kernel
theorem dX10_fact_34 : decode cX10_fact 34 = .ok (.ireturn, 1) := by decide +kernel
theorem dX10_fact_35 : decode cX10_fact 35 = .ok (.iload_n 2, 1) := by decide +kernel
theorem dX10_fact_36 : decode cX10_fact 36 = .ok (.iconst 0, 1) := by decide +kernel
theorem dX10_fact_37 : decode cX10_fact 37 = .ok (.aload_n 0, 1) := by decide +kernel
theorem dX10_fact_38 : decode cX10_fact 38 = .ok (.invokevirtual 511, 3) := by decide +kernel
theorem dX10_fact_41 : decode cX10_fact 41 = .ok (.iconst 1, 1) := by decide +kernel
theorem dX10_fact_42 : decode cX10_fact 42 = .ok (.isub, 1) := by decide +kernel
theorem dX10_fact_43 : decode cX10_fact 43 = .ok (.invokestatic 106, 3) := by decide +kernel
theorem dX10_fact_46 : decode cX10_fact 46 = .ok (.ifCond .eq 21, 3) := by decide +kernel
theorem dX10_fact_49 : decode cX10_fact 49 = .ok (.iload_n 3, 1) := by decide +kernel
theorem dX10_fact_50 : decode cX10_fact 50 = .ok (.iconst 0, 1) := by decide +kernel
theorem dX10_fact_51 : decode cX10_fact 51 = .ok (.iconst 2, 1) := by decide +kernel
theorem dX10_fact_52 : decode cX10_fact 52 = .ok (.invokestatic 106, 3) := by decide +kernel
theorem dX10_fact_55 : decode cX10_fact 55 = .ok (.ifCond .eq 12, 3) := by decide +kernel
theorem dX10_fact_58 : decode cX10_fact 58 = .ok (.aload_n 0, 1) := by decide +kernel
theorem dX10_fact_59 : decode cX10_fact 59 = .ok (.iload_n 2, 1) := by decide +kernel
theorem dX10_fact_60 : decode cX10_fact 60 = .ok (.iload_n 3, 1) := by decide +kernel
theorem dX10_fact_61 : decode cX10_fact 61 = .ok (.invokevirtual 514, 3) := by decide +kernel
theorem dX10_fact_64 : decode cX10_fact 64 = .ok (.goto 5, 3) := by decide +kernel
theorem dX10_fact_67 : decode cX10_fact 67 = .ok (.bipush (-2), 2) := by decide +kernel
theorem dX10_fact_69 : decode cX10_fact 69 = .ok (.ireturn, 1) := by decide +kernel
theorem dX10_laySight_0 : decode cX10_laySight 0 = .ok (.aload_n 0, 1) := by decide +kernel
theorem dX10_laySight_1 : decode cX10_laySight 1 = .ok (.iload_n 2, 1) := by decide +kernel
theorem dX10_laySight_2 : decode cX10_laySight 2 = .ok (.invokevirtual 508, 3) := by decide +kernel
theorem dX10_laySight_5 : decode cX10_laySight 5 = .ok (.ifCond .eq 11, 3) := by decide +kernel
theorem dX10_laySight_8 : decode cX10_laySight 8 = .ok (.aload_n 0, 1) := by decide +kernel
theorem dX10_laySight_9 : decode cX10_laySight 9 = .ok (.iload_n 1, 1) := by decide +kernel
theorem dX10_laySight_10 : decode cX10_laySight 10 = .ok (.invokevirtual 287, 3) := by decide +kernel
theorem dX10_laySight_13 : decode cX10_laySight 13 = .ok (.ifCond .ne 5, 3) := by decide +kernel
theorem dX10_laySight_16 : decode cX10_laySight 16 = .ok (.iconst 0, 1) := by decide +kernel
theorem dX10_laySight_17 : decode cX10_laySight 17 = .ok (.ireturn, 1) := by decide +kernel
theorem dX10_laySight_18 : decode cX10_laySight 18 = .ok (.iconst 0, 1) := by decide +kernel
theorem dX10_laySight_19 : decode cX10_laySight 19 = .ok (.istore_n 3, 1) := by decide +kernel
theorem dX10_laySight_20 : decode cX10_laySight 20 = .ok (.iload_n 3, 1) := by decide +kernel
theorem dX10_laySight_21 : decode cX10_laySight 21 = .ok (.aload_n 0, 1) := by decide +kernel
theorem dX10_laySight_22 : decode cX10_laySight 22 = .ok (.invokevirtual 511, 3) := by decide +kernel
theorem dX10_laySight_25 : decode cX10_laySight 25 = .ok (.if_icmp .ge 46, 3) := by decide +kernel
theorem dX10_laySight_28 : decode cX10_laySight 28 = .ok (.aload_n 0, 1) := by decide +kernel
theorem dX10_laySight_29 : decode cX10_laySight 29 = .ok (.iload_n 3, 1) := by decide +kernel
theorem dX10_laySight_30 : decode cX10_laySight 30 = .ok (.iconst 1, 1) := by decide +kernel
theorem dX10_laySight_31 : decode cX10_laySight 31 = .ok (.invokevirtual 514, 3) := by decide +kernel
theorem dX10_laySight_34 : decode cX10_laySight 34 = .ok (.aload_n 0, 1) := by decide +kernel
theorem dX10_laySight_35 : decode cX10_laySight 35 = .ok (.getfield 281, 3) := by decide +kernel
theorem dX10_laySight_38 : decode cX10_laySight 38 = .ok (.if_icmp .ge 25, 3) := by decide +kernel
theorem dX10_laySight_41 : decode cX10_laySight 41 = .ok (.aload_n 0, 1) := by decide +kernel
theorem dX10_laySight_42 : decode cX10_laySight 42 = .ok (.iload_n 3, 1) := by decide +kernel
theorem dX10_laySight_43 : decode cX10_laySight 43 = .ok (.iconst 0, 1) := by decide +kernel
theorem dX10_laySight_44 : decode cX10_laySight 44 = .ok (.invokevirtual 514, 3) := by decide +kernel
theorem dX10_laySight_47 : decode cX10_laySight 47 = .ok (.ifCond .ne 18, 3) := by decide +kernel
theorem dX10_laySight_50 : decode cX10_laySight 50 = .ok (.aload_n 0, 1) := by decide +kernel
theorem dX10_laySight_51 : decode cX10_laySight 51 = .ok (.iload_n 3, 1) := by decide +kernel
theorem dX10_laySight_52 : decode cX10_laySight 52 = .ok (.iconst 2, 1) := by decide +kernel
theorem dX10_laySight_53 : decode cX10_laySight 53 = .ok (.invokevirtual 514, 3) := by decide +kernel
theorem dX10_laySight_56 : decode cX10_laySight 56 = .ok (.aload_n 0, 1) := by decide +kernel
theorem dX10_laySight_57 : decode cX10_laySight 57 = .ok (.getfield 281, 3) := by decide +kernel
theorem dX10_laySight_60 : decode cX10_laySight 60 = .ok (.if_icmp .lt 5, 3) := by decide +kernel
theorem dX10_laySight_63 : decode cX10_laySight 63 = .ok (.iconst 0, 1) := by decide +kernel
theorem dX10_laySight_64 : decode cX10_laySight 64 = .ok (.ireturn, 1) := by decide +kernel
theorem dX10_laySight_65 : decode cX10_laySight 65 = .ok (.iinc 3 1, 3) := by decide +kernel
theorem dX10_laySight_68 : decode cX10_laySight 68 = .ok (.goto (-48), 3) := by decide +kernel
theorem dX10_laySight_71 : decode cX10_laySight 71 = .ok (.iconst 1, 1) := by decide +kernel
theorem dX10_laySight_72 : decode cX10_laySight 72 = .ok (.ireturn, 1) := by decide +kernel
theorem dX10_isSo_0 : decode cX10_isSo 0 = .ok (.aload_n 0, 1) := by decide +kernel
theorem dX10_isSo_1 : decode cX10_isSo 1 = .ok (.iload_n 1, 1) := by decide +kernel
theorem dX10_isSo_2 : decode cX10_isSo 2 = .ok (.iload_n 2, 1) := by decide +kernel
theorem dX10_isSo_3 : decode cX10_isSo 3 = .ok (.invokevirtual 365, 3) := by decide +kernel
theorem dX10_isSo_6 : decode cX10_isSo 6 = .ok (.istore_n 3, 1) := by decide +kernel
theorem dX10_isSo_7 : decode cX10_isSo 7 = .ok (.iconst 0, 1) := by decide +kernel
theorem dX10_isSo_8 : decode cX10_isSo 8 = .ok (.istore 4, 2) := by decide +kernel
theorem dX10_isSo_10 : decode cX10_isSo 10 = .ok (.iload 4, 2) := by decide +kernel
theorem dX10_isSo_12 : decode cX10_isSo 12 = .ok (.aload_n 0, 1) := by decide +kernel
theorem dX10_isSo_13 : decode cX10_isSo 13 = .ok (.invokevirtual 511, 3) := by decide +kernel
theorem dX10_isSo_16 : decode cX10_isSo 16 = .ok (.if_icmp .ge 134, 3) := by decide +kernel
theorem dX10_isSo_19 : decode cX10_isSo 19 = .ok (.iload_n 3, 1) := by decide +kernel
theorem dX10_isSo_20 : decode cX10_isSo 20 = .ok (.ifCond .eq 130, 3) := by decide +kernel
theorem dX10_isSo_23 : decode cX10_isSo 23 = .ok (.aload_n 0, 1) := by decide +kernel
theorem dX10_isSo_24 : decode cX10_isSo 24 = .ok (.iload 4, 2) := by decide +kernel
theorem dX10_isSo_26 : decode cX10_isSo 26 = .ok (.iconst 1, 1) := by decide +kernel
theorem dX10_isSo_27 : decode cX10_isSo 27 = .ok (.invokevirtual 514, 3) := by decide +kernel
theorem dX10_isSo_30 : decode cX10_isSo 30 = .ok (.istore 5, 2) := by decide +kernel
theorem dX10_isSo_32 : decode cX10_isSo 32 = .ok (.aload_n 0, 1) := by decide +kernel
theorem dX10_isSo_33 : decode cX10_isSo 33 = .ok (.iload 4, 2) := by decide +kernel
theorem dX10_isSo_35 : decode cX10_isSo 35 = .ok (.iconst 2, 1) := by decide +kernel
theorem dX10_isSo_36 : decode cX10_isSo 36 = .ok (.invokevirtual 514, 3) := by decide +kernel
theorem dX10_isSo_39 : decode cX10_isSo 39 = .ok (.istore 6, 2) := by decide +kernel
theorem dX10_isSo_41 : decode cX10_isSo 41 = .ok (.aload_n 0, 1) := by decide +kernel
theorem dX10_isSo_42 : decode cX10_isSo 42 = .ok (.iload 4, 2) := by decide +kernel
theorem dX10_isSo_44 : decode cX10_isSo 44 = .ok (.iconst 0, 1) := by decide +kernel
theorem dX10_isSo_45 : decode cX10_isSo 45 = .ok (.invokevirtual 514, 3) := by decide +kernel
theorem dX10_isSo_48 : decode cX10_isSo 48 = .ok (.ifCond .ne 27, 3) := by decide +kernel
theorem dX10_isSo_51 : decode cX10_isSo 51 = .ok (.iload_n 2, 1) := by decide +kernel
theorem dX10_isSo_52 : decode cX10_isSo 52 = .ok (.iload 6, 2) := by decide +kernel
theorem dX10_isSo_54 : decode cX10_isSo 54 = .ok (.if_icmp .ne 12, 3) := by decide +kernel
theorem dX10_isSo_57 : decode cX10_isSo 57 = .ok (.iload_n 1, 1) := by decide +kernel
theorem dX10_isSo_58 : decode cX10_isSo 58 = .ok (.iload 5, 2) := by decide +kernel
theorem dX10_isSo_60 : decode cX10_isSo 60 = .ok (.invokestatic 98, 3) := by decide +kernel
theorem dX10_isSo_63 : decode cX10_isSo 63 = .ok (.ifCond .eq 7, 3) := by decide +kernel
theorem dX10_isSo_66 : decode cX10_isSo 66 = .ok (.iconst 1, 1) := by decide +kernel
theorem dX10_isSo_67 : decode cX10_isSo 67 = .ok (.goto 4, 3) := by decide +kernel
theorem dX10_isSo_70 : decode cX10_isSo 70 = .ok (.iconst 0, 1) := by decide +kernel
theorem dX10_isSo_71 : decode cX10_isSo 71 = .ok (.istore_n 3, 1) := by decide +kernel
theorem dX10_isSo_72 : decode cX10_isSo 72 = .ok (.goto 72, 3) := by decide +kernel
theorem dX10_isSo_75 : decode cX10_isSo 75 = .ok (.aload_n 0, 1) := by decide +kernel
theorem dX10_isSo_76 : decode cX10_isSo 76 = .ok (.iload 4, 2) := by decide +kernel
theorem dX10_isSo_78 : decode cX10_isSo 78 = .ok (.iconst 0, 1) := by decide +kernel
theorem dX10_isSo_79 : decode cX10_isSo 79 = .ok (.invokevirtual 514, 3) := by decide +kernel
theorem dX10_isSo_82 : decode cX10_isSo 82 = .ok (.iconst 1, 1) := by decide +kernel
theorem dX10_isSo_83 : decode cX10_isSo 83 = .ok (.if_icmp .ne 40, 3) := by decide +kernel
theorem dX10_isSo_86 : decode cX10_isSo 86 = .ok (.iload_n 2, 1) := by decide +kernel
theorem dX10_isSo_87 : decode cX10_isSo 87 = .ok (.iload 5, 2) := by decide +kernel
theorem dX10_isSo_89 : decode cX10_isSo 89 = .ok (.if_icmp .ne 7, 3) := by decide +kernel
theorem dX10_isSo_92 : decode cX10_isSo 92 = .ok (.iconst 1, 1) := by decide +kernel
theorem dX10_isSo_93 : decode cX10_isSo 93 = .ok (.goto 4, 3) := by decide +kernel
theorem dX10_isSo_96 : decode cX10_isSo 96 = .ok (.iconst 0, 1) := by decide +kernel
theorem dX10_isSo_97 : decode cX10_isSo 97 = .ok (.iload_n 1, 1) := by decide +kernel
theorem dX10_isSo_98 : decode cX10_isSo 98 = .ok (.invokestatic 395, 3) := by decide +kernel
theorem dX10_isSo_101 : decode cX10_isSo 101 = .ok (.iload 6, 2) := by decide +kernel
theorem dX10_isSo_103 : decode cX10_isSo 103 = .ok (.if_icmp .ne 7, 3) := by decide +kernel
theorem dX10_isSo_106 : decode cX10_isSo 106 = .ok (.iconst 1, 1) := by decide +kernel
theorem dX10_isSo_107 : decode cX10_isSo 107 = .ok (.goto 4, 3) := by decide +kernel
theorem dX10_isSo_110 : decode cX10_isSo 110 = .ok (.iconst 0, 1) := by decide +kernel
theorem dX10_isSo_111 : decode cX10_isSo 111 = .ok (.if_icmp .ne 7, 3) := by decide +kernel
theorem dX10_isSo_114 : decode cX10_isSo 114 = .ok (.iconst 1, 1) := by decide +kernel
theorem dX10_isSo_115 : decode cX10_isSo 115 = .ok (.goto 4, 3) := by decide +kernel
theorem dX10_isSo_118 : decode cX10_isSo 118 = .ok (.iconst 0, 1) := by decide +kernel
theorem dX10_isSo_119 : decode cX10_isSo 119 = .ok (.istore_n 3, 1) := by decide +kernel
theorem dX10_isSo_120 : decode cX10_isSo 120 = .ok (.goto 24, 3) := by decide +kernel
theorem dX10_isSo_123 : decode cX10_isSo 123 = .ok (.iload_n 2, 1) := by decide +kernel
theorem dX10_isSo_124 : decode cX10_isSo 124 = .ok (.iload 5, 2) := by decide +kernel
theorem dX10_isSo_126 : decode cX10_isSo 126 = .ok (.if_icmp .ne 12, 3) := by decide +kernel
theorem dX10_isSo_129 : decode cX10_isSo 129 = .ok (.iload_n 1, 1) := by decide +kernel
theorem dX10_isSo_130 : decode cX10_isSo 130 = .ok (.invokestatic 395, 3) := by decide +kernel
theorem dX10_isSo_133 : decode cX10_isSo 133 = .ok (.iload 6, 2) := by decide +kernel
theorem dX10_isSo_135 : decode cX10_isSo 135 = .ok (.if_icmp .eq 7, 3) := by decide +kernel
theorem dX10_isSo_138 : decode cX10_isSo 138 = .ok (.iconst 1, 1) := by decide +kernel
theorem dX10_isSo_139 : decode cX10_isSo 139 = .ok (.goto 4, 3) := by decide +kernel
theorem dX10_isSo_142 : decode cX10_isSo 142 = .ok (.iconst 0, 1) := by decide +kernel
theorem dX10_isSo_143 : decode cX10_isSo 143 = .ok (.istore_n 3, 1) := by decide +kernel
theorem dX10_isSo_144 : decode cX10_isSo 144 = .ok (.iinc 4 1, 3) := by decide +kernel
theorem dX10_isSo_147 : decode cX10_isSo 147 = .ok (.goto (-137), 3) := by decide +kernel
theorem dX10_isSo_150 : decode cX10_isSo 150 = .ok (.iload_n 3, 1) := by decide +kernel
theorem dX10_isSo_151 : decode cX10_isSo 151 = .ok (.ireturn, 1) := by decide +kernel
theorem dX10_findSo_0 : decode cX10_findSo 0 = .ok (.aload_n 0, 1) := by decide +kernel
theorem dX10_findSo_1 : decode cX10_findSo 1 = .ok (.iconst 1, 1) := by decide +kernel
theorem dX10_findSo_2 : decode cX10_findSo 2 = .ok (.aload_n 0, 1) := by decide +kernel
theorem dX10_findSo_3 : decode cX10_findSo 3 = .ok (.getfield 281, 3) := by decide +kernel
theorem dX10_findSo_6 : decode cX10_findSo 6 = .ok (.ishl, 1) := by decide +kernel
theorem dX10_findSo_7 : decode cX10_findSo 7 = .ok (.iconst 1, 1) := by decide +kernel
theorem dX10_findSo_8 : decode cX10_findSo 8 = .ok (.isub, 1) := by decide +kernel
theorem dX10_findSo_9 : decode cX10_findSo 9 = .ok (.putfield 362, 3) := by decide +kernel
theorem dX10_findSo_12 : decode cX10_findSo 12 = .ok (.iconst 0, 1) := by decide +kernel
theorem dX10_findSo_13 : decode cX10_findSo 13 = .ok (.istore_n 1, 1) := by decide +kernel
theorem dX10_findSo_14 : decode cX10_findSo 14 = .ok (.iload_n 1, 1) := by decide +kernel
theorem dX10_findSo_15 : decode cX10_findSo 15 = .ok (.aload_n 0, 1) := by decide +kernel
theorem dX10_findSo_16 : decode cX10_findSo 16 = .ok (.getfield 362, 3) := by decide +kernel
theorem dX10_findSo_19 : decode cX10_findSo 19 = .ok (.if_icmp .gt 24, 3) := by decide +kernel
theorem dX10_findSo_22 : decode cX10_findSo 22 = .ok (.aload_n 0, 1) := by decide +kernel
theorem dX10_findSo_23 : decode cX10_findSo 23 = .ok (.getfield 75, 3) := by decide +kernel
theorem dX10_findSo_26 : decode cX10_findSo 26 = .ok (.iload_n 1, 1) := by decide +kernel
theorem dX10_findSo_27 : decode cX10_findSo 27 = .ok (.iload_n 1, 1) := by decide +kernel
theorem dX10_findSo_28 : decode cX10_findSo 28 = .ok (.ifCond .ne 7, 3) := by decide +kernel
theorem dX10_findSo_31 : decode cX10_findSo 31 = .ok (.lconst 1, 1) := by decide +kernel
theorem dX10_findSo_32 : decode cX10_findSo 32 = .ok (.goto 4, 3) := by decide +kernel
theorem dX10_findSo_35 : decode cX10_findSo 35 = .ok (.lconst 0, 1) := by decide +kernel
theorem dX10_findSo_36 : decode cX10_findSo 36 = .ok (.lastore, 1) := by decide +kernel
theorem dX10_findSo_37 : decode cX10_findSo 37 = .ok (.iinc 1 1, 3) := by decide +kernel
theorem dX10_findSo_40 : decode cX10_findSo 40 = .ok (.goto (-26), 3) := by decide +kernel
theorem dX10_findSo_43 : decode cX10_findSo 43 = .ok (.iconst 0, 1) := by decide +kernel
theorem dX10_findSo_44 : decode cX10_findSo 44 = .ok (.istore_n 1, 1) := by decide +kernel
theorem dX10_findSo_45 : decode cX10_findSo 45 = .ok (.iload_n 1, 1) := by decide +kernel
theorem dX10_findSo_46 : decode cX10_findSo 46 = .ok (.aload_n 0, 1) := by decide +kernel
theorem dX10_findSo_47 : decode cX10_findSo 47 = .ok (.getfield 362, 3) := by decide +kernel
theorem dX10_findSo_50 : decode cX10_findSo 50 = .ok (.if_icmp .ge 57, 3) := by decide +kernel
theorem dX10_findSo_53 : decode cX10_findSo 53 = .ok (.iconst 0, 1) := by decide +kernel
theorem dX10_findSo_54 : decode cX10_findSo 54 = .ok (.istore_n 2, 1) := by decide +kernel
theorem dX10_findSo_55 : decode cX10_findSo 55 = .ok (.iload_n 2, 1) := by decide +kernel
theorem dX10_findSo_56 : decode cX10_findSo 56 = .ok (.aload_n 0, 1) := by decide +kernel
theorem dX10_findSo_57 : decode cX10_findSo 57 = .ok (.getfield 281, 3) := by decide +kernel
theorem dX10_findSo_60 : decode cX10_findSo 60 = .ok (.if_icmp .ge 41, 3) := by decide +kernel
theorem dX10_findSo_63 : decode cX10_findSo 63 = .ok (.aload_n 0, 1) := by decide +kernel
theorem dX10_findSo_64 : decode cX10_findSo 64 = .ok (.getfield 75, 3) := by decide +kernel
theorem dX10_findSo_67 : decode cX10_findSo 67 = .ok (.iload_n 1, 1) := by decide +kernel
theorem dX10_findSo_68 : decode cX10_findSo 68 = .ok (.iconst 1, 1) := by decide +kernel
theorem dX10_findSo_69 : decode cX10_findSo 69 = .ok (.iload_n 2, 1) := by decide +kernel
theorem dX10_findSo_70 : decode cX10_findSo 70 = .ok (.ishl, 1) := by decide +kernel
theorem dX10_findSo_71 : decode cX10_findSo 71 = .ok (.ior, 1) := by decide +kernel
theorem dX10_findSo_72 : decode cX10_findSo 72 = .ok (.dup2, 1) := by decide +kernel
theorem dX10_findSo_73 : decode cX10_findSo 73 = .ok (.laload, 1) := by decide +kernel
theorem dX10_findSo_74 : decode cX10_findSo 74 = .ok (.aload_n 0, 1) := by decide +kernel
theorem dX10_findSo_75 : decode cX10_findSo 75 = .ok (.iload_n 1, 1) := by decide +kernel
theorem dX10_findSo_76 : decode cX10_findSo 76 = .ok (.iload_n 2, 1) := by decide +kernel
theorem dX10_findSo_77 : decode cX10_findSo 77 = .ok (.invokevirtual 517, 3) := by decide +kernel
theorem dX10_findSo_80 : decode cX10_findSo 80 = .ok (.ifCond .eq 12, 3) := by decide +kernel
theorem dX10_findSo_83 : decode cX10_findSo 83 = .ok (.aload_n 0, 1) := by decide +kernel
theorem dX10_findSo_84 : decode cX10_findSo 84 = .ok (.getfield 75, 3) := by decide +kernel
theorem dX10_findSo_87 : decode cX10_findSo 87 = .ok (.iload_n 1, 1) := by decide +kernel
theorem dX10_findSo_88 : decode cX10_findSo 88 = .ok (.laload, 1) := by decide +kernel
theorem dX10_findSo_89 : decode cX10_findSo 89 = .ok (.goto 4, 3) := by decide +kernel
theorem dX10_findSo_92 : decode cX10_findSo 92 = .ok (.lconst 0, 1) := by decide +kernel
theorem dX10_findSo_93 : decode cX10_findSo 93 = .ok (.ladd, 1) := by decide +kernel
theorem dX10_findSo_94 : decode cX10_findSo 94 = .ok (.lastore, 1) := by decide +kernel
theorem dX10_findSo_95 : decode cX10_findSo 95 = .ok (.iinc 2 1, 3) := by decide +kernel
theorem dX10_findSo_98 : decode cX10_findSo 98 = .ok (.goto (-43), 3) := by decide +kernel
theorem dX10_findSo_101 : decode cX10_findSo 101 = .ok (.iinc 1 1, 3) := by decide +kernel
theorem dX10_findSo_104 : decode cX10_findSo 104 = .ok (.goto (-59), 3) := by decide +kernel
theorem dX10_findSo_107 : decode cX10_findSo 107 = .ok (.aload_n 0, 1) := by decide +kernel
theorem dX10_findSo_108 : decode cX10_findSo 108 = .ok (.getfield 362, 3) := by decide +kernel
theorem dX10_findSo_111 : decode cX10_findSo 111 = .ok (.istore_n 1, 1) := by decide +kernel
theorem dX10_findSo_112 : decode cX10_findSo 112 = .ok (.iload_n 1, 1) := by decide +kernel
theorem dX10_findSo_113 : decode cX10_findSo 113 = .ok (.ifCond .lt 76, 3) := by decide +kernel
theorem dX10_findSo_116 : decode cX10_findSo 116 = .ok (.aload_n 0, 1) := by decide +kernel
theorem dX10_findSo_117 : decode cX10_findSo 117 = .ok (.getfield 78, 3) := by decide +kernel
theorem dX10_findSo_120 : decode cX10_findSo 120 = .ok (.iload_n 1, 1) := by decide +kernel
theorem dX10_findSo_121 : decode cX10_findSo 121 = .ok (.iload_n 1, 1) := by decide +kernel
theorem dX10_findSo_122 : decode cX10_findSo 122 = .ok (.aload_n 0, 1) := by decide +kernel
theorem dX10_findSo_123 : decode cX10_findSo 123 = .ok (.getfield 362, 3) := by decide +kernel
theorem dX10_findSo_126 : decode cX10_findSo 126 = .ok (.if_icmp .ne 7, 3) := by decide +kernel
theorem dX10_findSo_129 : decode cX10_findSo 129 = .ok (.lconst 1, 1) := by decide +kernel
theorem dX10_findSo_130 : decode cX10_findSo 130 = .ok (.goto 4, 3) := by decide +kernel
theorem dX10_findSo_133 : decode cX10_findSo 133 = .ok (.lconst 0, 1) := by decide +kernel
theorem dX10_findSo_134 : decode cX10_findSo 134 = .ok (.lastore, 1) := by decide +kernel
theorem dX10_findSo_135 : decode cX10_findSo 135 = .ok (.iconst 0, 1) := by decide +kernel
theorem dX10_findSo_136 : decode cX10_findSo 136 = .ok (.istore_n 2, 1) := by decide +kernel
theorem dX10_findSo_137 : decode cX10_findSo 137 = .ok (.iload_n 2, 1) := by decide +kernel
theorem dX10_findSo_138 : decode cX10_findSo 138 = .ok (.aload_n 0, 1) := by decide +kernel
theorem dX10_findSo_139 : decode cX10_findSo 139 = .ok (.getfield 281, 3) := by decide +kernel
theorem dX10_findSo_142 : decode cX10_findSo 142 = .ok (.if_icmp .ge 41, 3) := by decide +kernel
theorem dX10_findSo_145 : decode cX10_findSo 145 = .ok (.aload_n 0, 1) := by decide +kernel
theorem dX10_findSo_146 : decode cX10_findSo 146 = .ok (.getfield 78, 3) := by decide +kernel
theorem dX10_findSo_149 : decode cX10_findSo 149 = .ok (.iload_n 1, 1) := by decide +kernel
theorem dX10_findSo_150 : decode cX10_findSo 150 = .ok (.dup2, 1) := by decide +kernel
theorem dX10_findSo_151 : decode cX10_findSo 151 = .ok (.laload, 1) := by decide +kernel
theorem dX10_findSo_152 : decode cX10_findSo 152 = .ok (.aload_n 0, 1) := by decide +kernel
theorem dX10_findSo_153 : decode cX10_findSo 153 = .ok (.iload_n 1, 1) := by decide +kernel
theorem dX10_findSo_154 : decode cX10_findSo 154 = .ok (.iload_n 2, 1) := by decide +kernel
theorem dX10_findSo_155 : decode cX10_findSo 155 = .ok (.invokevirtual 517, 3) := by decide +kernel
theorem dX10_findSo_158 : decode cX10_findSo 158 = .ok (.ifCond .eq 16, 3) := by decide +kernel
theorem dX10_findSo_161 : decode cX10_findSo 161 = .ok (.aload_n 0, 1) := by decide +kernel
theorem dX10_findSo_162 : decode cX10_findSo 162 = .ok (.getfield 78, 3) := by decide +kernel
theorem dX10_findSo_165 : decode cX10_findSo 165 = .ok (.iload_n 1, 1) := by decide +kernel
theorem dX10_findSo_166 : decode cX10_findSo 166 = .ok (.iconst 1, 1) := by decide +kernel
theorem dX10_findSo_167 : decode cX10_findSo 167 = .ok (.iload_n 2, 1) := by decide +kernel
theorem dX10_findSo_168 : decode cX10_findSo 168 = .ok (.ishl, 1) := by decide +kernel
theorem dX10_findSo_169 : decode cX10_findSo 169 = .ok (.ior, 1) := by decide +kernel
theorem dX10_findSo_170 : decode cX10_findSo 170 = .ok (.laload, 1) := by decide +kernel
theorem dX10_findSo_171 : decode cX10_findSo 171 = .ok (.goto 4, 3) := by decide +kernel
theorem dX10_findSo_174 : decode cX10_findSo 174 = .ok (.lconst 0, 1) := by decide +kernel
theorem dX10_findSo_175 : decode cX10_findSo 175 = .ok (.ladd, 1) := by decide +kernel
theorem dX10_findSo_176 : decode cX10_findSo 176 = .ok (.lastore, 1) := by decide +kernel
theorem dX10_findSo_177 : decode cX10_findSo 177 = .ok (.iinc 2 1, 3) := by decide +kernel
theorem dX10_findSo_180 : decode cX10_findSo 180 = .ok (.goto (-43), 3) := by decide +kernel
theorem dX10_findSo_183 : decode cX10_findSo 183 = .ok (.iinc 1 (-1), 3) := by decide +kernel
theorem dX10_findSo_186 : decode cX10_findSo 186 = .ok (.goto (-74), 3) := by decide +kernel
theorem dX10_findSo_189 : decode cX10_findSo 189 = .ok (.return_, 1) := by decide +kernel
theorem dX10_holds_0 : decode cX10_holds 0 = .ok (.lconst 0, 1) := by decide +kernel
theorem dX10_holds_1 : decode cX10_holds 1 = .ok (.lstore_n 3, 1) := by decide +kernel
theorem dX10_holds_2 : decode cX10_holds 2 = .ok (.iconst 0, 1) := by decide +kernel
theorem dX10_holds_3 : decode cX10_holds 3 = .ok (.istore 5, 2) := by decide +kernel
theorem dX10_holds_5 : decode cX10_holds 5 = .ok (.iload 5, 2) := by decide +kernel
theorem dX10_holds_7 : decode cX10_holds 7 = .ok (.aload_n 0, 1) := by decide +kernel
theorem dX10_holds_8 : decode cX10_holds 8 = .ok (.getfield 362, 3) := by decide +kernel
theorem dX10_holds_11 : decode cX10_holds 11 = .ok (.if_icmp .ge 66, 3) := by decide +kernel
theorem dX10_holds_14 : decode cX10_holds 14 = .ok (.iload 5, 2) := by decide +kernel
theorem dX10_holds_16 : decode cX10_holds 16 = .ok (.invokestatic 395, 3) := by decide +kernel
theorem dX10_holds_19 : decode cX10_holds 19 = .ok (.iload_n 2, 1) := by decide +kernel
theorem dX10_holds_20 : decode cX10_holds 20 = .ok (.if_icmp .ne 17, 3) := by decide +kernel
theorem dX10_holds_23 : decode cX10_holds 23 = .ok (.aload_n 0, 1) := by decide +kernel
theorem dX10_holds_24 : decode cX10_holds 24 = .ok (.iload 5, 2) := by decide +kernel
theorem dX10_holds_26 : decode cX10_holds 26 = .ok (.iload_n 1, 1) := by decide +kernel
theorem dX10_holds_27 : decode cX10_holds 27 = .ok (.invokevirtual 517, 3) := by decide +kernel
theorem dX10_holds_30 : decode cX10_holds 30 = .ok (.ifCond .eq 7, 3) := by decide +kernel
theorem dX10_holds_33 : decode cX10_holds 33 = .ok (.iconst 1, 1) := by decide +kernel
theorem dX10_holds_34 : decode cX10_holds 34 = .ok (.goto 4, 3) := by decide +kernel
theorem dX10_holds_37 : decode cX10_holds 37 = .ok (.iconst 0, 1) := by decide +kernel
theorem dX10_holds_38 : decode cX10_holds 38 = .ok (.istore 6, 2) := by decide +kernel
theorem dX10_holds_40 : decode cX10_holds 40 = .ok (.lload_n 3, 1) := by decide +kernel
theorem dX10_holds_41 : decode cX10_holds 41 = .ok (.iload 6, 2) := by decide +kernel
theorem dX10_holds_43 : decode cX10_holds 43 = .ok (.ifCond .eq 25, 3) := by decide +kernel
theorem dX10_holds_46 : decode cX10_holds 46 = .ok (.aload_n 0, 1) := by decide +kernel
theorem dX10_holds_47 : decode cX10_holds 47 = .ok (.getfield 75, 3) := by decide +kernel
theorem dX10_holds_50 : decode cX10_holds 50 = .ok (.iload 5, 2) := by decide +kernel
theorem dX10_holds_52 : decode cX10_holds 52 = .ok (.laload, 1) := by decide +kernel
theorem dX10_holds_53 : decode cX10_holds 53 = .ok (.aload_n 0, 1) := by decide +kernel
theorem dX10_holds_54 : decode cX10_holds 54 = .ok (.getfield 78, 3) := by decide +kernel
theorem dX10_holds_57 : decode cX10_holds 57 = .ok (.iload 5, 2) := by decide +kernel
theorem dX10_holds_59 : decode cX10_holds 59 = .ok (.iconst 1, 1) := by decide +kernel
theorem dX10_holds_60 : decode cX10_holds 60 = .ok (.iload_n 1, 1) := by decide +kernel
theorem dX10_holds_61 : decode cX10_holds 61 = .ok (.ishl, 1) := by decide +kernel
theorem dX10_holds_62 : decode cX10_holds 62 = .ok (.ior, 1) := by decide +kernel
theorem dX10_holds_63 : decode cX10_holds 63 = .ok (.laload, 1) := by decide +kernel
theorem dX10_holds_64 : decode cX10_holds 64 = .ok (.lmul, 1) := by decide +kernel
theorem dX10_holds_65 : decode cX10_holds 65 = .ok (.goto 4, 3) := by decide +kernel
theorem dX10_holds_68 : decode cX10_holds 68 = .ok (.lconst 0, 1) := by decide +kernel
theorem dX10_holds_69 : decode cX10_holds 69 = .ok (.ladd, 1) := by decide +kernel
theorem dX10_holds_70 : decode cX10_holds 70 = .ok (.lstore_n 3, 1) := by decide +kernel
theorem dX10_holds_71 : decode cX10_holds 71 = .ok (.iinc 5 1, 3) := by decide +kernel
theorem dX10_holds_74 : decode cX10_holds 74 = .ok (.goto (-69), 3) := by decide +kernel
theorem dX10_holds_77 : decode cX10_holds 77 = .ok (.lload_n 3, 1) := by decide +kernel
theorem dX10_holds_78 : decode cX10_holds 78 = .ok (.lreturn, 1) := by decide +kernel
theorem dX10_fits_0 : decode cX10_fits 0 = .ok (.aload_n 0, 1) := by decide +kernel
theorem dX10_fits_1 : decode cX10_fits 1 = .ok (.iconst 0, 1) := by decide +kernel
theorem dX10_fits_2 : decode cX10_fits 2 = .ok (.putfield 94, 3) := by decide +kernel
theorem dX10_fits_5 : decode cX10_fits 5 = .ok (.aload_n 0, 1) := by decide +kernel
theorem dX10_fits_6 : decode cX10_fits 6 = .ok (.iload_n 1, 1) := by decide +kernel
theorem dX10_fits_7 : decode cX10_fits 7 = .ok (.iload_n 2, 1) := by decide +kernel
theorem dX10_fits_8 : decode cX10_fits 8 = .ok (.invokevirtual 520, 3) := by decide +kernel
theorem dX10_fits_11 : decode cX10_fits 11 = .ok (.ifCond .eq 31, 3) := by decide +kernel
theorem dX10_fits_14 : decode cX10_fits 14 = .ok (.iload_n 3, 1) := by decide +kernel
theorem dX10_fits_15 : decode cX10_fits 15 = .ok (.iconst (-1), 1) := by decide +kernel
theorem dX10_fits_16 : decode cX10_fits 16 = .ok (.if_icmp .eq 30, 3) := by decide +kernel
theorem dX10_fits_19 : decode cX10_fits 19 = .ok (.aload_n 0, 1) := by decide +kernel
theorem dX10_fits_20 : decode cX10_fits 20 = .ok (.iload_n 3, 1) := by decide +kernel
theorem dX10_fits_21 : decode cX10_fits 21 = .ok (.invokevirtual 290, 3) := by decide +kernel
theorem dX10_fits_24 : decode cX10_fits 24 = .ok (.ifCond .eq 18, 3) := by decide +kernel
theorem dX10_fits_27 : decode cX10_fits 27 = .ok (.iload 4, 2) := by decide +kernel
theorem dX10_fits_29 : decode cX10_fits 29 = .ok (.iconst 0, 1) := by decide +kernel
theorem dX10_fits_30 : decode cX10_fits 30 = .ok (.aload_n 0, 1) := by decide +kernel
theorem dX10_fits_31 : decode cX10_fits 31 = .ok (.getfield 281, 3) := by decide +kernel
theorem dX10_fits_34 : decode cX10_fits 34 = .ok (.iconst 1, 1) := by decide +kernel
theorem dX10_fits_35 : decode cX10_fits 35 = .ok (.isub, 1) := by decide +kernel
theorem dX10_fits_36 : decode cX10_fits 36 = .ok (.invokestatic 106, 3) := by decide +kernel
theorem dX10_fits_39 : decode cX10_fits 39 = .ok (.ifCond .ne 7, 3) := by decide +kernel
theorem dX10_fits_42 : decode cX10_fits 42 = .ok (.ldc2_w 368, 3) := by decide +kernel
theorem dX10_fits_45 : decode cX10_fits 45 = .ok (.lreturn, 1) := by decide +kernel
theorem dX10_fits_46 : decode cX10_fits 46 = .ok (.aload_n 0, 1) := by decide +kernel
theorem dX10_fits_47 : decode cX10_fits 47 = .ok (.invokevirtual 523, 3) := by decide +kernel
theorem dX10_fits_50 : decode cX10_fits 50 = .ok (.iload_n 3, 1) := by decide +kernel
theorem dX10_fits_51 : decode cX10_fits 51 = .ok (.iconst (-1), 1) := by decide +kernel
theorem dX10_fits_52 : decode cX10_fits 52 = .ok (.if_icmp .ne 12, 3) := by decide +kernel
theorem dX10_fits_55 : decode cX10_fits 55 = .ok (.aload_n 0, 1) := by decide +kernel
theorem dX10_fits_56 : decode cX10_fits 56 = .ok (.getfield 78, 3) := by decide +kernel
theorem dX10_fits_59 : decode cX10_fits 59 = .ok (.iconst 0, 1) := by decide +kernel
theorem dX10_fits_60 : decode cX10_fits 60 = .ok (.laload, 1) := by decide +kernel
theorem dX10_fits_61 : decode cX10_fits 61 = .ok (.goto 10, 3) := by decide +kernel
theorem dX10_fits_64 : decode cX10_fits 64 = .ok (.aload_n 0, 1) := by decide +kernel
theorem dX10_fits_65 : decode cX10_fits 65 = .ok (.iload_n 3, 1) := by decide +kernel
theorem dX10_fits_66 : decode cX10_fits 66 = .ok (.iload 4, 2) := by decide +kernel
theorem dX10_fits_68 : decode cX10_fits 68 = .ok (.invokevirtual 526, 3) := by decide +kernel
theorem dX10_fits_71 : decode cX10_fits 71 = .ok (.lreturn, 1) := by decide +kernel
theorem dX10_aheadOf_0 : decode cX10_aheadOf 0 = .ok (.lconst 0, 1) := by decide +kernel
theorem dX10_aheadOf_1 : decode cX10_aheadOf 1 = .ok (.lstore_n 3, 1) := by decide +kernel
theorem dX10_aheadOf_2 : decode cX10_aheadOf 2 = .ok (.iconst 0, 1) := by decide +kernel
theorem dX10_aheadOf_3 : decode cX10_aheadOf 3 = .ok (.istore 5, 2) := by decide +kernel
theorem dX10_aheadOf_5 : decode cX10_aheadOf 5 = .ok (.iload 5, 2) := by decide +kernel
theorem dX10_aheadOf_7 : decode cX10_aheadOf 7 = .ok (.aload_n 0, 1) := by decide +kernel
theorem dX10_aheadOf_8 : decode cX10_aheadOf 8 = .ok (.getfield 362, 3) := by decide +kernel
theorem dX10_aheadOf_11 : decode cX10_aheadOf 11 = .ok (.if_icmp .ge 54, 3) := by decide +kernel
theorem dX10_aheadOf_14 : decode cX10_aheadOf 14 = .ok (.lload_n 3, 1) := by decide +kernel
theorem dX10_aheadOf_15 : decode cX10_aheadOf 15 = .ok (.iload 5, 2) := by decide +kernel
theorem dX10_aheadOf_17 : decode cX10_aheadOf 17 = .ok (.iload_n 1, 1) := by decide +kernel
theorem dX10_aheadOf_18 : decode cX10_aheadOf 18 = .ok (.invokestatic 98, 3) := by decide +kernel
theorem dX10_aheadOf_21 : decode cX10_aheadOf 21 = .ok (.ifCond .eq 35, 3) := by decide +kernel
theorem dX10_aheadOf_24 : decode cX10_aheadOf 24 = .ok (.aload_n 0, 1) := by decide +kernel
theorem dX10_aheadOf_25 : decode cX10_aheadOf 25 = .ok (.iload 5, 2) := by decide +kernel
theorem dX10_aheadOf_27 : decode cX10_aheadOf 27 = .ok (.iload_n 2, 1) := by decide +kernel
theorem dX10_aheadOf_28 : decode cX10_aheadOf 28 = .ok (.invokevirtual 517, 3) := by decide +kernel
theorem dX10_aheadOf_31 : decode cX10_aheadOf 31 = .ok (.ifCond .eq 25, 3) := by decide +kernel
theorem dX10_aheadOf_34 : decode cX10_aheadOf 34 = .ok (.aload_n 0, 1) := by decide +kernel
theorem dX10_aheadOf_35 : decode cX10_aheadOf 35 = .ok (.getfield 75, 3) := by decide +kernel
theorem dX10_aheadOf_38 : decode cX10_aheadOf 38 = .ok (.iload 5, 2) := by decide +kernel
theorem dX10_aheadOf_40 : decode cX10_aheadOf 40 = .ok (.laload, 1) := by decide +kernel
theorem dX10_aheadOf_41 : decode cX10_aheadOf 41 = .ok (.aload_n 0, 1) := by decide +kernel
theorem dX10_aheadOf_42 : decode cX10_aheadOf 42 = .ok (.getfield 78, 3) := by decide +kernel
theorem dX10_aheadOf_45 : decode cX10_aheadOf 45 = .ok (.iload 5, 2) := by decide +kernel
theorem dX10_aheadOf_47 : decode cX10_aheadOf 47 = .ok (.iconst 1, 1) := by decide +kernel
theorem dX10_aheadOf_48 : decode cX10_aheadOf 48 = .ok (.iload_n 2, 1) := by decide +kernel
theorem dX10_aheadOf_49 : decode cX10_aheadOf 49 = .ok (.ishl, 1) := by decide +kernel
theorem dX10_aheadOf_50 : decode cX10_aheadOf 50 = .ok (.ior, 1) := by decide +kernel
theorem dX10_aheadOf_51 : decode cX10_aheadOf 51 = .ok (.laload, 1) := by decide +kernel
theorem dX10_aheadOf_52 : decode cX10_aheadOf 52 = .ok (.lmul, 1) := by decide +kernel
theorem dX10_aheadOf_53 : decode cX10_aheadOf 53 = .ok (.goto 4, 3) := by decide +kernel
theorem dX10_aheadOf_56 : decode cX10_aheadOf 56 = .ok (.lconst 0, 1) := by decide +kernel
theorem dX10_aheadOf_57 : decode cX10_aheadOf 57 = .ok (.ladd, 1) := by decide +kernel
theorem dX10_aheadOf_58 : decode cX10_aheadOf 58 = .ok (.lstore_n 3, 1) := by decide +kernel
theorem dX10_aheadOf_59 : decode cX10_aheadOf 59 = .ok (.iinc 5 1, 3) := by decide +kernel
theorem dX10_aheadOf_62 : decode cX10_aheadOf 62 = .ok (.goto (-57), 3) := by decide +kernel
theorem dX10_aheadOf_65 : decode cX10_aheadOf 65 = .ok (.lload_n 3, 1) := by decide +kernel
theorem dX10_aheadOf_66 : decode cX10_aheadOf 66 = .ok (.lreturn, 1) := by decide +kernel
theorem dX10_ask_0 : decode cX10_ask 0 = .ok (.iconst (-1), 1) := by decide +kernel
theorem dX10_ask_1 : decode cX10_ask 1 = .ok (.istore_n 1, 1) := by decide +kernel
theorem dX10_ask_2 : decode cX10_ask 2 = .ok (.lconst 0, 1) := by decide +kernel
theorem dX10_ask_3 : decode cX10_ask 3 = .ok (.lstore_n 2, 1) := by decide +kernel
theorem dX10_ask_4 : decode cX10_ask 4 = .ok (.iconst 0, 1) := by decide +kernel
theorem dX10_ask_5 : decode cX10_ask 5 = .ok (.istore 4, 2) := by decide +kernel
theorem dX10_ask_7 : decode cX10_ask 7 = .ok (.iload 4, 2) := by decide +kernel
theorem dX10_ask_9 : decode cX10_ask 9 = .ok (.aload_n 0, 1) := by decide +kernel
theorem dX10_ask_10 : decode cX10_ask 10 = .ok (.getfield 281, 3) := by decide +kernel
theorem dX10_ask_13 : decode cX10_ask 13 = .ok (.if_icmp .ge 120, 3) := by decide +kernel
theorem dX10_ask_16 : decode cX10_ask 16 = .ok (.iload 4, 2) := by decide +kernel
theorem dX10_ask_18 : decode cX10_ask 18 = .ok (.iconst 1, 1) := by decide +kernel
theorem dX10_ask_19 : decode cX10_ask 19 = .ok (.iadd, 1) := by decide +kernel
theorem dX10_ask_20 : decode cX10_ask 20 = .ok (.istore 5, 2) := by decide +kernel
theorem dX10_ask_22 : decode cX10_ask 22 = .ok (.iload 5, 2) := by decide +kernel
theorem dX10_ask_24 : decode cX10_ask 24 = .ok (.aload_n 0, 1) := by decide +kernel
theorem dX10_ask_25 : decode cX10_ask 25 = .ok (.getfield 281, 3) := by decide +kernel
theorem dX10_ask_28 : decode cX10_ask 28 = .ok (.if_icmp .ge 99, 3) := by decide +kernel
theorem dX10_ask_31 : decode cX10_ask 31 = .ok (.aload_n 0, 1) := by decide +kernel
theorem dX10_ask_32 : decode cX10_ask 32 = .ok (.iload 4, 2) := by decide +kernel
theorem dX10_ask_34 : decode cX10_ask 34 = .ok (.iload 5, 2) := by decide +kernel
theorem dX10_ask_36 : decode cX10_ask 36 = .ok (.invokevirtual 530, 3) := by decide +kernel
theorem dX10_ask_39 : decode cX10_ask 39 = .ok (.lstore 6, 2) := by decide +kernel
theorem dX10_ask_41 : decode cX10_ask 41 = .ok (.lload 6, 2) := by decide +kernel
theorem dX10_ask_43 : decode cX10_ask 43 = .ok (.aload_n 0, 1) := by decide +kernel
theorem dX10_ask_44 : decode cX10_ask 44 = .ok (.getfield 78, 3) := by decide +kernel
theorem dX10_ask_47 : decode cX10_ask 47 = .ok (.iconst 0, 1) := by decide +kernel
theorem dX10_ask_48 : decode cX10_ask 48 = .ok (.laload, 1) := by decide +kernel
theorem dX10_ask_49 : decode cX10_ask 49 = .ok (.lload 6, 2) := by decide +kernel
theorem dX10_ask_51 : decode cX10_ask 51 = .ok (.lsub, 1) := by decide +kernel
theorem dX10_ask_52 : decode cX10_ask 52 = .ok (.lcmp, 1) := by decide +kernel
theorem dX10_ask_53 : decode cX10_ask 53 = .ok (.ifCond .le 8, 3) := by decide +kernel
theorem dX10_ask_56 : decode cX10_ask 56 = .ok (.lload 6, 2) := by decide +kernel
theorem dX10_ask_58 : decode cX10_ask 58 = .ok (.goto 12, 3) := by decide +kernel
theorem dX10_ask_61 : decode cX10_ask 61 = .ok (.aload_n 0, 1) := by decide +kernel
theorem dX10_ask_62 : decode cX10_ask 62 = .ok (.getfield 78, 3) := by decide +kernel
theorem dX10_ask_65 : decode cX10_ask 65 = .ok (.iconst 0, 1) := by decide +kernel
theorem dX10_ask_66 : decode cX10_ask 66 = .ok (.laload, 1) := by decide +kernel
theorem dX10_ask_67 : decode cX10_ask 67 = .ok (.lload 6, 2) := by decide +kernel
theorem dX10_ask_69 : decode cX10_ask 69 = .ok (.lsub, 1) := by decide +kernel
theorem dX10_ask_70 : decode cX10_ask 70 = .ok (.lstore 8, 2) := by decide +kernel
theorem dX10_ask_72 : decode cX10_ask 72 = .ok (.iload_n 1, 1) := by decide +kernel
theorem dX10_ask_73 : decode cX10_ask 73 = .ok (.iconst (-1), 1) := by decide +kernel
theorem dX10_ask_74 : decode cX10_ask 74 = .ok (.if_icmp .eq 10, 3) := by decide +kernel
theorem dX10_ask_77 : decode cX10_ask 77 = .ok (.lload 8, 2) := by decide +kernel
theorem dX10_ask_79 : decode cX10_ask 79 = .ok (.lload_n 2, 1) := by decide +kernel
theorem dX10_ask_80 : decode cX10_ask 80 = .ok (.lcmp, 1) := by decide +kernel
theorem dX10_ask_81 : decode cX10_ask 81 = .ok (.ifCond .ge 7, 3) := by decide +kernel
theorem dX10_ask_84 : decode cX10_ask 84 = .ok (.iconst 1, 1) := by decide +kernel
theorem dX10_ask_85 : decode cX10_ask 85 = .ok (.goto 4, 3) := by decide +kernel
theorem dX10_ask_88 : decode cX10_ask 88 = .ok (.iconst 0, 1) := by decide +kernel
theorem dX10_ask_89 : decode cX10_ask 89 = .ok (.istore 10, 2) := by decide +kernel
theorem dX10_ask_91 : decode cX10_ask 91 = .ok (.iload 10, 2) := by decide +kernel
theorem dX10_ask_93 : decode cX10_ask 93 = .ok (.ifCond .eq 14, 3) := by decide +kernel
theorem dX10_ask_96 : decode cX10_ask 96 = .ok (.bipush 9, 2) := by decide +kernel
theorem dX10_ask_98 : decode cX10_ask 98 = .ok (.iload 4, 2) := by decide +kernel
theorem dX10_ask_100 : decode cX10_ask 100 = .ok (.imul, 1) := by decide +kernel
theorem dX10_ask_101 : decode cX10_ask 101 = .ok (.iload 5, 2) := by decide +kernel
theorem dX10_ask_103 : decode cX10_ask 103 = .ok (.iadd, 1) := by decide +kernel
theorem dX10_ask_104 : decode cX10_ask 104 = .ok (.goto 4, 3) := by decide +kernel
theorem dX10_ask_107 : decode cX10_ask 107 = .ok (.iload_n 1, 1) := by decide +kernel
theorem dX10_ask_108 : decode cX10_ask 108 = .ok (.istore_n 1, 1) := by decide +kernel
theorem dX10_ask_109 : decode cX10_ask 109 = .ok (.iload 10, 2) := by decide +kernel
theorem dX10_ask_111 : decode cX10_ask 111 = .ok (.ifCond .eq 8, 3) := by decide +kernel
theorem dX10_ask_114 : decode cX10_ask 114 = .ok (.lload 8, 2) := by decide +kernel
theorem dX10_ask_116 : decode cX10_ask 116 = .ok (.goto 4, 3) := by decide +kernel
theorem dX10_ask_119 : decode cX10_ask 119 = .ok (.lload_n 2, 1) := by decide +kernel
theorem dX10_ask_120 : decode cX10_ask 120 = .ok (.lstore_n 2, 1) := by decide +kernel
theorem dX10_ask_121 : decode cX10_ask 121 = .ok (.iinc 5 1, 3) := by decide +kernel
theorem dX10_ask_124 : decode cX10_ask 124 = .ok (.goto (-102), 3) := by decide +kernel
theorem dX10_ask_127 : decode cX10_ask 127 = .ok (.iinc 4 1, 3) := by decide +kernel
theorem dX10_ask_130 : decode cX10_ask 130 = .ok (.goto (-123), 3) := by decide +kernel
theorem dX10_ask_133 : decode cX10_ask 133 = .ok (.iload_n 1, 1) := by decide +kernel
theorem dX10_ask_134 : decode cX10_ask 134 = .ok (.ireturn, 1) := by decide +kernel
theorem dX10_sure_0 : decode cX10_sure 0 = .ok (.aload_n 0, 1) := by decide +kernel
theorem dX10_sure_1 : decode cX10_sure 1 = .ok (.iconst 0, 1) := by decide +kernel
theorem dX10_sure_2 : decode cX10_sure 2 = .ok (.putfield 94, 3) := by decide +kernel
theorem dX10_sure_5 : decode cX10_sure 5 = .ok (.aload_n 0, 1) := by decide +kernel
theorem dX10_sure_6 : decode cX10_sure 6 = .ok (.iload_n 1, 1) := by decide +kernel
theorem dX10_sure_7 : decode cX10_sure 7 = .ok (.iload_n 2, 1) := by decide +kernel
theorem dX10_sure_8 : decode cX10_sure 8 = .ok (.invokevirtual 520, 3) := by decide +kernel
theorem dX10_sure_11 : decode cX10_sure 11 = .ok (.ifCond .eq 22, 3) := by decide +kernel
theorem dX10_sure_14 : decode cX10_sure 14 = .ok (.iload_n 3, 1) := by decide +kernel
theorem dX10_sure_15 : decode cX10_sure 15 = .ok (.iconst (-1), 1) := by decide +kernel
theorem dX10_sure_16 : decode cX10_sure 16 = .ok (.if_icmp .eq 19, 3) := by decide +kernel
theorem dX10_sure_19 : decode cX10_sure 19 = .ok (.iload_n 3, 1) := by decide +kernel
theorem dX10_sure_20 : decode cX10_sure 20 = .ok (.iconst 0, 1) := by decide +kernel
theorem dX10_sure_21 : decode cX10_sure 21 = .ok (.aload_n 0, 1) := by decide +kernel
theorem dX10_sure_22 : decode cX10_sure 22 = .ok (.getfield 281, 3) := by decide +kernel
theorem dX10_sure_25 : decode cX10_sure 25 = .ok (.iconst 1, 1) := by decide +kernel
theorem dX10_sure_26 : decode cX10_sure 26 = .ok (.isub, 1) := by decide +kernel
theorem dX10_sure_27 : decode cX10_sure 27 = .ok (.invokestatic 106, 3) := by decide +kernel
theorem dX10_sure_30 : decode cX10_sure 30 = .ok (.ifCond .ne 5, 3) := by decide +kernel
theorem dX10_sure_33 : decode cX10_sure 33 = .ok (.iconst (-1), 1) := by decide +kernel
theorem dX10_sure_34 : decode cX10_sure 34 = .ok (.ireturn, 1) := by decide +kernel
theorem dX10_sure_35 : decode cX10_sure 35 = .ok (.aload_n 0, 1) := by decide +kernel
theorem dX10_sure_36 : decode cX10_sure 36 = .ok (.invokevirtual 523, 3) := by decide +kernel
theorem dX10_sure_39 : decode cX10_sure 39 = .ok (.aload_n 0, 1) := by decide +kernel
theorem dX10_sure_40 : decode cX10_sure 40 = .ok (.getfield 78, 3) := by decide +kernel
theorem dX10_sure_43 : decode cX10_sure 43 = .ok (.iconst 0, 1) := by decide +kernel
theorem dX10_sure_44 : decode cX10_sure 44 = .ok (.laload, 1) := by decide +kernel
theorem dX10_sure_45 : decode cX10_sure 45 = .ok (.lconst 0, 1) := by decide +kernel
theorem dX10_sure_46 : decode cX10_sure 46 = .ok (.lcmp, 1) := by decide +kernel
theorem dX10_sure_47 : decode cX10_sure 47 = .ok (.ifCond .ne 5, 3) := by decide +kernel
theorem dX10_sure_50 : decode cX10_sure 50 = .ok (.iconst (-1), 1) := by decide +kernel
theorem dX10_sure_51 : decode cX10_sure 51 = .ok (.ireturn, 1) := by decide +kernel
theorem dX10_sure_52 : decode cX10_sure 52 = .ok (.iload_n 3, 1) := by decide +kernel
theorem dX10_sure_53 : decode cX10_sure 53 = .ok (.iconst (-1), 1) := by decide +kernel
theorem dX10_sure_54 : decode cX10_sure 54 = .ok (.if_icmp .ne 8, 3) := by decide +kernel
theorem dX10_sure_57 : decode cX10_sure 57 = .ok (.aload_n 0, 1) := by decide +kernel
theorem dX10_sure_58 : decode cX10_sure 58 = .ok (.invokevirtual 533, 3) := by decide +kernel
theorem dX10_sure_61 : decode cX10_sure 61 = .ok (.ireturn, 1) := by decide +kernel
theorem dX10_sure_62 : decode cX10_sure 62 = .ok (.iconst 0, 1) := by decide +kernel
theorem dX10_sure_63 : decode cX10_sure 63 = .ok (.istore 4, 2) := by decide +kernel
theorem dX10_sure_65 : decode cX10_sure 65 = .ok (.iload 4, 2) := by decide +kernel
theorem dX10_sure_67 : decode cX10_sure 67 = .ok (.aload_n 0, 1) := by decide +kernel
theorem dX10_sure_68 : decode cX10_sure 68 = .ok (.getfield 281, 3) := by decide +kernel
theorem dX10_sure_71 : decode cX10_sure 71 = .ok (.if_icmp .ge 29, 3) := by decide +kernel
theorem dX10_sure_74 : decode cX10_sure 74 = .ok (.aload_n 0, 1) := by decide +kernel
theorem dX10_sure_75 : decode cX10_sure 75 = .ok (.iload 4, 2) := by decide +kernel
theorem dX10_sure_77 : decode cX10_sure 77 = .ok (.iload_n 3, 1) := by decide +kernel
theorem dX10_sure_78 : decode cX10_sure 78 = .ok (.invokevirtual 526, 3) := by decide +kernel
theorem dX10_sure_81 : decode cX10_sure 81 = .ok (.aload_n 0, 1) := by decide +kernel
theorem dX10_sure_82 : decode cX10_sure 82 = .ok (.getfield 78, 3) := by decide +kernel
theorem dX10_sure_85 : decode cX10_sure 85 = .ok (.iconst 0, 1) := by decide +kernel
theorem dX10_sure_86 : decode cX10_sure 86 = .ok (.laload, 1) := by decide +kernel
theorem dX10_sure_87 : decode cX10_sure 87 = .ok (.lcmp, 1) := by decide +kernel
theorem dX10_sure_88 : decode cX10_sure 88 = .ok (.ifCond .ne 6, 3) := by decide +kernel
theorem dX10_sure_91 : decode cX10_sure 91 = .ok (.iload 4, 2) := by decide +kernel
theorem dX10_sure_93 : decode cX10_sure 93 = .ok (.ireturn, 1) := by decide +kernel
theorem dX10_sure_94 : decode cX10_sure 94 = .ok (.iinc 4 1, 3) := by decide +kernel
theorem dX10_sure_97 : decode cX10_sure 97 = .ok (.goto (-32), 3) := by decide +kernel
theorem dX10_sure_100 : decode cX10_sure 100 = .ok (.iconst (-1), 1) := by decide +kernel
theorem dX10_sure_101 : decode cX10_sure 101 = .ok (.ireturn, 1) := by decide +kernel
theorem dX10_draw_0 : decode cX10_draw 0 = .ok (.aload_n 0, 1) := by decide +kernel
theorem dX10_draw_1 : decode cX10_draw 1 = .ok (.aload_n 0, 1) := by decide +kernel
theorem dX10_draw_2 : decode cX10_draw 2 = .ok (.getfield 536, 3) := by decide +kernel
theorem dX10_draw_5 : decode cX10_draw 5 = .ok (.ldc_w 539, 3) := by decide +kernel
theorem dX10_draw_8 : decode cX10_draw 8 = .ok (.imul, 1) := by decide +kernel
theorem dX10_draw_9 : decode cX10_draw 9 = .ok (.sipush 12345, 3) := by decide +kernel
theorem dX10_draw_12 : decode cX10_draw 12 = .ok (.iadd, 1) := by decide +kernel
theorem dX10_draw_13 : decode cX10_draw 13 = .ok (.putfield 536, 3) := by decide +kernel
theorem dX10_draw_16 : decode cX10_draw 16 = .ok (.aload_n 0, 1) := by decide +kernel
theorem dX10_draw_17 : decode cX10_draw 17 = .ok (.getfield 536, 3) := by decide +kernel
theorem dX10_draw_20 : decode cX10_draw 20 = .ok (.bipush 16, 2) := by decide +kernel
theorem dX10_draw_22 : decode cX10_draw 22 = .ok (.iushr, 1) := by decide +kernel
theorem dX10_draw_23 : decode cX10_draw 23 = .ok (.iload_n 1, 1) := by decide +kernel
theorem dX10_draw_24 : decode cX10_draw 24 = .ok (.irem, 1) := by decide +kernel
theorem dX10_draw_25 : decode cX10_draw 25 = .ok (.ireturn, 1) := by decide +kernel
theorem dX10_drawDeed_0 : decode cX10_drawDeed 0 = .ok (.aload_n 0, 1) := by decide +kernel
theorem dX10_drawDeed_1 : decode cX10_drawDeed 1 = .ok (.bipush 10, 2) := by decide +kernel
theorem dX10_drawDeed_3 : decode cX10_drawDeed 3 = .ok (.invokevirtual 540, 3) := by decide +kernel
theorem dX10_drawDeed_6 : decode cX10_drawDeed 6 = .ok (.istore_n 1, 1) := by decide +kernel
theorem dX10_drawDeed_7 : decode cX10_drawDeed 7 = .ok (.iload_n 1, 1) := by decide +kernel
theorem dX10_drawDeed_8 : decode cX10_drawDeed 8 = .ok (.bipush 7, 2) := by decide +kernel
theorem dX10_drawDeed_10 : decode cX10_drawDeed 10 = .ok (.if_icmp .le 11, 3) := by decide +kernel
theorem dX10_drawDeed_13 : decode cX10_drawDeed 13 = .ok (.aload_n 0, 1) := by decide +kernel
theorem dX10_drawDeed_14 : decode cX10_drawDeed 14 = .ok (.invokevirtual 344, 3) := by decide +kernel
theorem dX10_drawDeed_17 : decode cX10_drawDeed 17 = .ok (.pop, 1) := by decide +kernel
theorem dX10_drawDeed_18 : decode cX10_drawDeed 18 = .ok (.goto 60, 3) := by decide +kernel
theorem dX10_drawDeed_21 : decode cX10_drawDeed 21 = .ok (.iload_n 1, 1) := by decide +kernel
theorem dX10_drawDeed_22 : decode cX10_drawDeed 22 = .ok (.bipush 7, 2) := by decide +kernel
theorem dX10_drawDeed_24 : decode cX10_drawDeed 24 = .ok (.if_icmp .ne 17, 3) := by decide +kernel
theorem dX10_drawDeed_27 : decode cX10_drawDeed 27 = .ok (.aload_n 0, 1) := by decide +kernel
theorem dX10_drawDeed_28 : decode cX10_drawDeed 28 = .ok (.iconst 1, 1) := by decide +kernel
theorem dX10_drawDeed_29 : decode cX10_drawDeed 29 = .ok (.aload_n 0, 1) := by decide +kernel
theorem dX10_drawDeed_30 : decode cX10_drawDeed 30 = .ok (.iconst 3, 1) := by decide +kernel
theorem dX10_drawDeed_31 : decode cX10_drawDeed 31 = .ok (.invokevirtual 540, 3) := by decide +kernel
theorem dX10_drawDeed_34 : decode cX10_drawDeed 34 = .ok (.iadd, 1) := by decide +kernel
theorem dX10_drawDeed_35 : decode cX10_drawDeed 35 = .ok (.invokevirtual 332, 3) := by decide +kernel
theorem dX10_drawDeed_38 : decode cX10_drawDeed 38 = .ok (.goto 40, 3) := by decide +kernel
theorem dX10_drawDeed_41 : decode cX10_drawDeed 41 = .ok (.aload_n 0, 1) := by decide +kernel
theorem dX10_drawDeed_42 : decode cX10_drawDeed 42 = .ok (.getfield 281, 3) := by decide +kernel
theorem dX10_drawDeed_45 : decode cX10_drawDeed 45 = .ok (.ifCond .le 33, 3) := by decide +kernel
theorem dX10_drawDeed_48 : decode cX10_drawDeed 48 = .ok (.aload_n 0, 1) := by decide +kernel
theorem dX10_drawDeed_49 : decode cX10_drawDeed 49 = .ok (.aload_n 0, 1) := by decide +kernel
theorem dX10_drawDeed_50 : decode cX10_drawDeed 50 = .ok (.getfield 281, 3) := by decide +kernel
theorem dX10_drawDeed_53 : decode cX10_drawDeed 53 = .ok (.invokevirtual 540, 3) := by decide +kernel
theorem dX10_drawDeed_56 : decode cX10_drawDeed 56 = .ok (.istore_n 2, 1) := by decide +kernel
theorem dX10_drawDeed_57 : decode cX10_drawDeed 57 = .ok (.iload_n 1, 1) := by decide +kernel
theorem dX10_drawDeed_58 : decode cX10_drawDeed 58 = .ok (.bipush 6, 2) := by decide +kernel
theorem dX10_drawDeed_60 : decode cX10_drawDeed 60 = .ok (.if_icmp .ge 12, 3) := by decide +kernel
theorem dX10_drawDeed_63 : decode cX10_drawDeed 63 = .ok (.aload_n 0, 1) := by decide +kernel
theorem dX10_drawDeed_64 : decode cX10_drawDeed 64 = .ok (.iload_n 2, 1) := by decide +kernel
theorem dX10_drawDeed_65 : decode cX10_drawDeed 65 = .ok (.invokevirtual 335, 3) := by decide +kernel
theorem dX10_drawDeed_68 : decode cX10_drawDeed 68 = .ok (.pop, 1) := by decide +kernel
theorem dX10_drawDeed_69 : decode cX10_drawDeed 69 = .ok (.goto 9, 3) := by decide +kernel
theorem dX10_drawDeed_72 : decode cX10_drawDeed 72 = .ok (.aload_n 0, 1) := by decide +kernel
theorem dX10_drawDeed_73 : decode cX10_drawDeed 73 = .ok (.iload_n 2, 1) := by decide +kernel
theorem dX10_drawDeed_74 : decode cX10_drawDeed 74 = .ok (.invokevirtual 338, 3) := by decide +kernel
theorem dX10_drawDeed_77 : decode cX10_drawDeed 77 = .ok (.pop, 1) := by decide +kernel
theorem dX10_drawDeed_78 : decode cX10_drawDeed 78 = .ok (.return_, 1) := by decide +kernel
theorem dX10_drawn_0 : decode cX10_drawn 0 = .ok (.aload_n 0, 1) := by decide +kernel
theorem dX10_drawn_1 : decode cX10_drawn 1 = .ok (.iconst 0, 1) := by decide +kernel
theorem dX10_drawn_2 : decode cX10_drawn 2 = .ok (.putfield 94, 3) := by decide +kernel
theorem dX10_drawn_5 : decode cX10_drawn 5 = .ok (.iload_n 3, 1) := by decide +kernel
theorem dX10_drawn_6 : decode cX10_drawn 6 = .ok (.iconst 0, 1) := by decide +kernel
theorem dX10_drawn_7 : decode cX10_drawn 7 = .ok (.bipush 60, 2) := by decide +kernel
theorem dX10_drawn_9 : decode cX10_drawn 9 = .ok (.invokestatic 106, 3) := by decide +kernel
theorem dX10_drawn_12 : decode cX10_drawn 12 = .ok (.ifCond .eq 11, 3) := by decide +kernel
theorem dX10_drawn_15 : decode cX10_drawn 15 = .ok (.aload_n 0, 1) := by decide +kernel
theorem dX10_drawn_16 : decode cX10_drawn 16 = .ok (.iload_n 1, 1) := by decide +kernel
theorem dX10_drawn_17 : decode cX10_drawn 17 = .ok (.invokevirtual 287, 3) := by decide +kernel
theorem dX10_drawn_20 : decode cX10_drawn 20 = .ok (.ifCond .ne 7, 3) := by decide +kernel
theorem dX10_drawn_23 : decode cX10_drawn 23 = .ok (.sipush (-1000), 3) := by decide +kernel
theorem dX10_drawn_26 : decode cX10_drawn 26 = .ok (.ireturn, 1) := by decide +kernel
theorem dX10_drawn_27 : decode cX10_drawn 27 = .ok (.aload_n 0, 1) := by decide +kernel
theorem dX10_drawn_28 : decode cX10_drawn 28 = .ok (.iload_n 2, 1) := by decide +kernel
theorem dX10_drawn_29 : decode cX10_drawn 29 = .ok (.putfield 536, 3) := by decide +kernel
theorem dX10_drawn_32 : decode cX10_drawn 32 = .ok (.aload_n 0, 1) := by decide +kernel
theorem dX10_drawn_33 : decode cX10_drawn 33 = .ok (.invokevirtual 347, 3) := by decide +kernel
theorem dX10_drawn_36 : decode cX10_drawn 36 = .ok (.iconst 0, 1) := by decide +kernel
theorem dX10_drawn_37 : decode cX10_drawn 37 = .ok (.istore 5, 2) := by decide +kernel
theorem dX10_drawn_39 : decode cX10_drawn 39 = .ok (.iload 5, 2) := by decide +kernel
theorem dX10_drawn_41 : decode cX10_drawn 41 = .ok (.iload_n 3, 1) := by decide +kernel
theorem dX10_drawn_42 : decode cX10_drawn 42 = .ok (.if_icmp .ge 13, 3) := by decide +kernel
theorem dX10_drawn_45 : decode cX10_drawn 45 = .ok (.aload_n 0, 1) := by decide +kernel
theorem dX10_drawn_46 : decode cX10_drawn 46 = .ok (.invokevirtual 543, 3) := by decide +kernel
theorem dX10_drawn_49 : decode cX10_drawn 49 = .ok (.iinc 5 1, 3) := by decide +kernel
theorem dX10_drawn_52 : decode cX10_drawn 52 = .ok (.goto (-13), 3) := by decide +kernel
theorem dX10_drawn_55 : decode cX10_drawn 55 = .ok (.aload_n 0, 1) := by decide +kernel
theorem dX10_drawn_56 : decode cX10_drawn 56 = .ok (.iload 4, 2) := by decide +kernel
theorem dX10_drawn_58 : decode cX10_drawn 58 = .ok (.invokevirtual 359, 3) := by decide +kernel
theorem dX10_drawn_61 : decode cX10_drawn 61 = .ok (.ireturn, 1) := by decide +kernel
theorem dX10_under_0 : decode cX10_under 0 = .ok (.aload_n 0, 1) := by decide +kernel
theorem dX10_under_1 : decode cX10_under 1 = .ok (.iconst 0, 1) := by decide +kernel
theorem dX10_under_2 : decode cX10_under 2 = .ok (.putfield 94, 3) := by decide +kernel
theorem dX10_under_5 : decode cX10_under 5 = .ok (.aload_n 0, 1) := by decide +kernel
theorem dX10_under_6 : decode cX10_under 6 = .ok (.iload_n 1, 1) := by decide +kernel
theorem dX10_under_7 : decode cX10_under 7 = .ok (.invokevirtual 287, 3) := by decide +kernel
theorem dX10_under_10 : decode cX10_under 10 = .ok (.ifCond .eq 27, 3) := by decide +kernel
theorem dX10_under_13 : decode cX10_under 13 = .ok (.aload_n 0, 1) := by decide +kernel
theorem dX10_under_14 : decode cX10_under 14 = .ok (.iload_n 2, 1) := by decide +kernel
theorem dX10_under_15 : decode cX10_under 15 = .ok (.invokevirtual 290, 3) := by decide +kernel
theorem dX10_under_18 : decode cX10_under 18 = .ok (.ifCond .eq 19, 3) := by decide +kernel
theorem dX10_under_21 : decode cX10_under 21 = .ok (.iload_n 3, 1) := by decide +kernel
theorem dX10_under_22 : decode cX10_under 22 = .ok (.iconst 0, 1) := by decide +kernel
theorem dX10_under_23 : decode cX10_under 23 = .ok (.iconst 1, 1) := by decide +kernel
theorem dX10_under_24 : decode cX10_under 24 = .ok (.invokestatic 106, 3) := by decide +kernel
theorem dX10_under_27 : decode cX10_under 27 = .ok (.ifCond .eq 10, 3) := by decide +kernel
theorem dX10_under_30 : decode cX10_under 30 = .ok (.aload_n 0, 1) := by decide +kernel
theorem dX10_under_31 : decode cX10_under 31 = .ok (.invokevirtual 370, 3) := by decide +kernel
theorem dX10_under_34 : decode cX10_under 34 = .ok (.ifCond .ne 5, 3) := by decide +kernel
theorem dX10_under_37 : decode cX10_under 37 = .ok (.iconst (-1), 1) := by decide +kernel
theorem dX10_under_38 : decode cX10_under 38 = .ok (.ireturn, 1) := by decide +kernel
theorem dX10_under_39 : decode cX10_under 39 = .ok (.iload_n 3, 1) := by decide +kernel
theorem dX10_under_40 : decode cX10_under 40 = .ok (.ifCond .ne 11, 3) := by decide +kernel
theorem dX10_under_43 : decode cX10_under 43 = .ok (.aload_n 0, 1) := by decide +kernel
theorem dX10_under_44 : decode cX10_under 44 = .ok (.iload_n 2, 1) := by decide +kernel
theorem dX10_under_45 : decode cX10_under 45 = .ok (.invokevirtual 398, 3) := by decide +kernel
theorem dX10_under_48 : decode cX10_under 48 = .ok (.goto 23, 3) := by decide +kernel
theorem dX10_under_51 : decode cX10_under 51 = .ok (.aload_n 0, 1) := by decide +kernel
theorem dX10_under_52 : decode cX10_under 52 = .ok (.aload_n 0, 1) := by decide +kernel
theorem dX10_under_53 : decode cX10_under 53 = .ok (.iload_n 2, 1) := by decide +kernel
theorem dX10_under_54 : decode cX10_under 54 = .ok (.invokevirtual 373, 3) := by decide +kernel
theorem dX10_under_57 : decode cX10_under 57 = .ok (.iconst 1, 1) := by decide +kernel
theorem dX10_under_58 : decode cX10_under 58 = .ok (.iload_n 2, 1) := by decide +kernel
theorem dX10_under_59 : decode cX10_under 59 = .ok (.ishl, 1) := by decide +kernel
theorem dX10_under_60 : decode cX10_under 60 = .ok (.ior, 1) := by decide +kernel
theorem dX10_under_61 : decode cX10_under 61 = .ok (.invokevirtual 376, 3) := by decide +kernel
theorem dX10_under_64 : decode cX10_under 64 = .ok (.iconst 1, 1) := by decide +kernel
theorem dX10_under_65 : decode cX10_under 65 = .ok (.isub, 1) := by decide +kernel
theorem dX10_under_66 : decode cX10_under 66 = .ok (.aload_n 0, 1) := by decide +kernel
theorem dX10_under_67 : decode cX10_under 67 = .ok (.getfield 284, 3) := by decide +kernel
theorem dX10_under_70 : decode cX10_under 70 = .ok (.idiv, 1) := by decide +kernel
theorem dX10_under_71 : decode cX10_under 71 = .ok (.ireturn, 1) := by decide +kernel
theorem dX10_canBegin_0 : decode cX10_canBegin 0 = .ok (.aload_n 0, 1) := by decide +kernel
theorem dX10_canBegin_1 : decode cX10_canBegin 1 = .ok (.getfield 81, 3) := by decide +kernel
theorem dX10_canBegin_4 : decode cX10_canBegin 4 = .ok (.iload_n 1, 1) := by decide +kernel
theorem dX10_canBegin_5 : decode cX10_canBegin 5 = .ok (.iaload, 1) := by decide +kernel
theorem dX10_canBegin_6 : decode cX10_canBegin 6 = .ok (.iconst (-1), 1) := by decide +kernel
theorem dX10_canBegin_7 : decode cX10_canBegin 7 = .ok (.if_icmp .eq 5, 3) := by decide +kernel
theorem dX10_canBegin_10 : decode cX10_canBegin 10 = .ok (.iconst 0, 1) := by decide +kernel
theorem dX10_canBegin_11 : decode cX10_canBegin 11 = .ok (.ireturn, 1) := by decide +kernel
theorem dX10_canBegin_12 : decode cX10_canBegin 12 = .ok (.iconst 0, 1) := by decide +kernel
theorem dX10_canBegin_13 : decode cX10_canBegin 13 = .ok (.istore_n 3, 1) := by decide +kernel
theorem dX10_canBegin_14 : decode cX10_canBegin 14 = .ok (.iload_n 3, 1) := by decide +kernel
theorem dX10_canBegin_15 : decode cX10_canBegin 15 = .ok (.aload_n 0, 1) := by decide +kernel
theorem dX10_canBegin_16 : decode cX10_canBegin 16 = .ok (.getfield 281, 3) := by decide +kernel
theorem dX10_canBegin_19 : decode cX10_canBegin 19 = .ok (.if_icmp .ge 46, 3) := by decide +kernel
theorem dX10_canBegin_22 : decode cX10_canBegin 22 = .ok (.aload_n 0, 1) := by decide +kernel
theorem dX10_canBegin_23 : decode cX10_canBegin 23 = .ok (.bipush 29, 2) := by decide +kernel
theorem dX10_canBegin_25 : decode cX10_canBegin 25 = .ok (.iload_n 1, 1) := by decide +kernel
theorem dX10_canBegin_26 : decode cX10_canBegin 26 = .ok (.iadd, 1) := by decide +kernel
theorem dX10_canBegin_27 : decode cX10_canBegin 27 = .ok (.invokevirtual 277, 3) := by decide +kernel
theorem dX10_canBegin_30 : decode cX10_canBegin 30 = .ok (.iload_n 3, 1) := by decide +kernel
theorem dX10_canBegin_31 : decode cX10_canBegin 31 = .ok (.invokestatic 98, 3) := by decide +kernel
theorem dX10_canBegin_34 : decode cX10_canBegin 34 = .ok (.ifCond .eq 25, 3) := by decide +kernel
theorem dX10_canBegin_37 : decode cX10_canBegin 37 = .ok (.aload_n 0, 1) := by decide +kernel
theorem dX10_canBegin_38 : decode cX10_canBegin 38 = .ok (.getfield 81, 3) := by decide +kernel
theorem dX10_canBegin_41 : decode cX10_canBegin 41 = .ok (.iload_n 3, 1) := by decide +kernel
theorem dX10_canBegin_42 : decode cX10_canBegin 42 = .ok (.iaload, 1) := by decide +kernel
theorem dX10_canBegin_43 : decode cX10_canBegin 43 = .ok (.iconst (-1), 1) := by decide +kernel
theorem dX10_canBegin_44 : decode cX10_canBegin 44 = .ok (.if_icmp .eq 13, 3) := by decide +kernel
theorem dX10_canBegin_47 : decode cX10_canBegin 47 = .ok (.aload_n 0, 1) := by decide +kernel
theorem dX10_canBegin_48 : decode cX10_canBegin 48 = .ok (.getfield 81, 3) := by decide +kernel
theorem dX10_canBegin_51 : decode cX10_canBegin 51 = .ok (.iload_n 3, 1) := by decide +kernel
theorem dX10_canBegin_52 : decode cX10_canBegin 52 = .ok (.iaload, 1) := by decide +kernel
theorem dX10_canBegin_53 : decode cX10_canBegin 53 = .ok (.iload_n 2, 1) := by decide +kernel
theorem dX10_canBegin_54 : decode cX10_canBegin 54 = .ok (.if_icmp .lt 5, 3) := by decide +kernel
theorem dX10_canBegin_57 : decode cX10_canBegin 57 = .ok (.iconst 0, 1) := by decide +kernel
theorem dX10_canBegin_58 : decode cX10_canBegin 58 = .ok (.ireturn, 1) := by decide +kernel
theorem dX10_canBegin_59 : decode cX10_canBegin 59 = .ok (.iinc 3 1, 3) := by decide +kernel
theorem dX10_canBegin_62 : decode cX10_canBegin 62 = .ok (.goto (-48), 3) := by decide +kernel
theorem dX10_canBegin_65 : decode cX10_canBegin 65 = .ok (.iconst 1, 1) := by decide +kernel
theorem dX10_canBegin_66 : decode cX10_canBegin 66 = .ok (.ireturn, 1) := by decide +kernel
theorem dX10_morning_0 : decode cX10_morning 0 = .ok (.iconst 0, 1) := by decide +kernel
theorem dX10_morning_1 : decode cX10_morning 1 = .ok (.istore_n 3, 1) := by decide +kernel
theorem dX10_morning_2 : decode cX10_morning 2 = .ok (.iload_n 3, 1) := by decide +kernel
theorem dX10_morning_3 : decode cX10_morning 3 = .ok (.iload_n 1, 1) := by decide +kernel
theorem dX10_morning_4 : decode cX10_morning 4 = .ok (.if_icmp .ge 103, 3) := by decide +kernel
theorem dX10_morning_7 : decode cX10_morning 7 = .ok (.aload_n 0, 1) := by decide +kernel
theorem dX10_morning_8 : decode cX10_morning 8 = .ok (.getfield 84, 3) := by decide +kernel
theorem dX10_morning_11 : decode cX10_morning 11 = .ok (.iload_n 3, 1) := by decide +kernel
theorem dX10_morning_12 : decode cX10_morning 12 = .ok (.iaload, 1) := by decide +kernel
theorem dX10_morning_13 : decode cX10_morning 13 = .ok (.iload_n 2, 1) := by decide +kernel
theorem dX10_morning_14 : decode cX10_morning 14 = .ok (.if_icmp .le 7, 3) := by decide +kernel
theorem dX10_morning_17 : decode cX10_morning 17 = .ok (.iconst 1, 1) := by decide +kernel
theorem dX10_morning_18 : decode cX10_morning 18 = .ok (.goto 4, 3) := by decide +kernel
theorem dX10_morning_21 : decode cX10_morning 21 = .ok (.iconst 0, 1) := by decide +kernel
theorem dX10_morning_22 : decode cX10_morning 22 = .ok (.istore 4, 2) := by decide +kernel
theorem dX10_morning_24 : decode cX10_morning 24 = .ok (.iconst 0, 1) := by decide +kernel
theorem dX10_morning_25 : decode cX10_morning 25 = .ok (.istore 5, 2) := by decide +kernel
theorem dX10_morning_27 : decode cX10_morning 27 = .ok (.iload 5, 2) := by decide +kernel
theorem dX10_morning_29 : decode cX10_morning 29 = .ok (.aload_n 0, 1) := by decide +kernel
theorem dX10_morning_30 : decode cX10_morning 30 = .ok (.getfield 281, 3) := by decide +kernel
theorem dX10_morning_33 : decode cX10_morning 33 = .ok (.if_icmp .ge 68, 3) := by decide +kernel
theorem dX10_morning_36 : decode cX10_morning 36 = .ok (.iload 4, 2) := by decide +kernel
theorem dX10_morning_38 : decode cX10_morning 38 = .ok (.ifCond .ne 63, 3) := by decide +kernel
theorem dX10_morning_41 : decode cX10_morning 41 = .ok (.aload_n 0, 1) := by decide +kernel
theorem dX10_morning_42 : decode cX10_morning 42 = .ok (.iload 5, 2) := by decide +kernel
theorem dX10_morning_44 : decode cX10_morning 44 = .ok (.iload_n 2, 1) := by decide +kernel
theorem dX10_morning_45 : decode cX10_morning 45 = .ok (.invokevirtual 546, 3) := by decide +kernel
theorem dX10_morning_48 : decode cX10_morning 48 = .ok (.ifCond .eq 47, 3) := by decide +kernel
theorem dX10_morning_51 : decode cX10_morning 51 = .ok (.iconst 1, 1) := by decide +kernel
theorem dX10_morning_52 : decode cX10_morning 52 = .ok (.istore 4, 2) := by decide +kernel
theorem dX10_morning_54 : decode cX10_morning 54 = .ok (.aload_n 0, 1) := by decide +kernel
theorem dX10_morning_55 : decode cX10_morning 55 = .ok (.getfield 81, 3) := by decide +kernel
theorem dX10_morning_58 : decode cX10_morning 58 = .ok (.iload 5, 2) := by decide +kernel
theorem dX10_morning_60 : decode cX10_morning 60 = .ok (.iload_n 2, 1) := by decide +kernel
theorem dX10_morning_61 : decode cX10_morning 61 = .ok (.aload_n 0, 1) := by decide +kernel
theorem dX10_morning_62 : decode cX10_morning 62 = .ok (.iconst 2, 1) := by decide +kernel
theorem dX10_morning_63 : decode cX10_morning 63 = .ok (.iload 5, 2) := by decide +kernel
theorem dX10_morning_65 : decode cX10_morning 65 = .ok (.iadd, 1) := by decide +kernel
theorem dX10_morning_66 : decode cX10_morning 66 = .ok (.invokevirtual 277, 3) := by decide +kernel
theorem dX10_morning_69 : decode cX10_morning 69 = .ok (.aload_n 0, 1) := by decide +kernel
theorem dX10_morning_70 : decode cX10_morning 70 = .ok (.getfield 284, 3) := by decide +kernel
theorem dX10_morning_73 : decode cX10_morning 73 = .ok (.invokestatic 413, 3) := by decide +kernel
theorem dX10_morning_76 : decode cX10_morning 76 = .ok (.iadd, 1) := by decide +kernel
theorem dX10_morning_77 : decode cX10_morning 77 = .ok (.iconst 1, 1) := by decide +kernel
theorem dX10_morning_78 : decode cX10_morning 78 = .ok (.isub, 1) := by decide +kernel
theorem dX10_morning_79 : decode cX10_morning 79 = .ok (.iastore, 1) := by decide +kernel
theorem dX10_morning_80 : decode cX10_morning 80 = .ok (.aload_n 0, 1) := by decide +kernel
theorem dX10_morning_81 : decode cX10_morning 81 = .ok (.getfield 84, 3) := by decide +kernel
theorem dX10_morning_84 : decode cX10_morning 84 = .ok (.iload_n 3, 1) := by decide +kernel
theorem dX10_morning_85 : decode cX10_morning 85 = .ok (.aload_n 0, 1) := by decide +kernel
theorem dX10_morning_86 : decode cX10_morning 86 = .ok (.getfield 81, 3) := by decide +kernel
theorem dX10_morning_89 : decode cX10_morning 89 = .ok (.iload 5, 2) := by decide +kernel
theorem dX10_morning_91 : decode cX10_morning 91 = .ok (.iaload, 1) := by decide +kernel
theorem dX10_morning_92 : decode cX10_morning 92 = .ok (.iconst 1, 1) := by decide +kernel
theorem dX10_morning_93 : decode cX10_morning 93 = .ok (.iadd, 1) := by decide +kernel
theorem dX10_morning_94 : decode cX10_morning 94 = .ok (.iastore, 1) := by decide +kernel
theorem dX10_morning_95 : decode cX10_morning 95 = .ok (.iinc 5 1, 3) := by decide +kernel
theorem dX10_morning_98 : decode cX10_morning 98 = .ok (.goto (-71), 3) := by decide +kernel
theorem dX10_morning_101 : decode cX10_morning 101 = .ok (.iinc 3 1, 3) := by decide +kernel
theorem dX10_morning_104 : decode cX10_morning 104 = .ok (.goto (-102), 3) := by decide +kernel
theorem dX10_morning_107 : decode cX10_morning 107 = .ok (.return_, 1) := by decide +kernel
theorem dX10_hands_0 : decode cX10_hands 0 = .ok (.aload_n 0, 1) := by decide +kernel
theorem dX10_hands_1 : decode cX10_hands 1 = .ok (.iconst 0, 1) := by decide +kernel
theorem dX10_hands_2 : decode cX10_hands 2 = .ok (.putfield 94, 3) := by decide +kernel
theorem dX10_hands_5 : decode cX10_hands 5 = .ok (.iload_n 2, 1) := by decide +kernel
theorem dX10_hands_6 : decode cX10_hands 6 = .ok (.iconst 1, 1) := by decide +kernel
theorem dX10_hands_7 : decode cX10_hands 7 = .ok (.iconst 4, 1) := by decide +kernel
theorem dX10_hands_8 : decode cX10_hands 8 = .ok (.invokestatic 106, 3) := by decide +kernel
theorem dX10_hands_11 : decode cX10_hands 11 = .ok (.ifCond .eq 18, 3) := by decide +kernel
theorem dX10_hands_14 : decode cX10_hands 14 = .ok (.aload_n 0, 1) := by decide +kernel
theorem dX10_hands_15 : decode cX10_hands 15 = .ok (.iload_n 1, 1) := by decide +kernel
theorem dX10_hands_16 : decode cX10_hands 16 = .ok (.invokevirtual 287, 3) := by decide +kernel
theorem dX10_hands_19 : decode cX10_hands 19 = .ok (.ifCond .eq 10, 3) := by decide +kernel
theorem dX10_hands_22 : decode cX10_hands 22 = .ok (.aload_n 0, 1) := by decide +kernel
theorem dX10_hands_23 : decode cX10_hands 23 = .ok (.invokevirtual 370, 3) := by decide +kernel
theorem dX10_hands_26 : decode cX10_hands 26 = .ok (.ifCond .ne 5, 3) := by decide +kernel
theorem dX10_hands_29 : decode cX10_hands 29 = .ok (.iconst (-1), 1) := by decide +kernel
theorem dX10_hands_30 : decode cX10_hands 30 = .ok (.ireturn, 1) := by decide +kernel
theorem dX10_hands_31 : decode cX10_hands 31 = .ok (.iconst 0, 1) := by decide +kernel
theorem dX10_hands_32 : decode cX10_hands 32 = .ok (.istore_n 3, 1) := by decide +kernel
theorem dX10_hands_33 : decode cX10_hands 33 = .ok (.iload_n 3, 1) := by decide +kernel
theorem dX10_hands_34 : decode cX10_hands 34 = .ok (.bipush 9, 2) := by decide +kernel
theorem dX10_hands_36 : decode cX10_hands 36 = .ok (.if_icmp .ge 16, 3) := by decide +kernel
theorem dX10_hands_39 : decode cX10_hands 39 = .ok (.aload_n 0, 1) := by decide +kernel
theorem dX10_hands_40 : decode cX10_hands 40 = .ok (.getfield 81, 3) := by decide +kernel
theorem dX10_hands_43 : decode cX10_hands 43 = .ok (.iload_n 3, 1) := by decide +kernel
theorem dX10_hands_44 : decode cX10_hands 44 = .ok (.iconst (-1), 1) := by decide +kernel
theorem dX10_hands_45 : decode cX10_hands 45 = .ok (.iastore, 1) := by decide +kernel
theorem dX10_hands_46 : decode cX10_hands 46 = .ok (.iinc 3 1, 3) := by decide +kernel
theorem dX10_hands_49 : decode cX10_hands 49 = .ok (.goto (-16), 3) := by decide +kernel
theorem dX10_hands_52 : decode cX10_hands 52 = .ok (.iconst 0, 1) := by decide +kernel
theorem dX10_hands_53 : decode cX10_hands 53 = .ok (.istore_n 3, 1) := by decide +kernel
theorem dX10_hands_54 : decode cX10_hands 54 = .ok (.iload_n 3, 1) := by decide +kernel
theorem dX10_hands_55 : decode cX10_hands 55 = .ok (.iconst 4, 1) := by decide +kernel
theorem dX10_hands_56 : decode cX10_hands 56 = .ok (.if_icmp .ge 16, 3) := by decide +kernel
theorem dX10_hands_59 : decode cX10_hands 59 = .ok (.aload_n 0, 1) := by decide +kernel
theorem dX10_hands_60 : decode cX10_hands 60 = .ok (.getfield 84, 3) := by decide +kernel
theorem dX10_hands_63 : decode cX10_hands 63 = .ok (.iload_n 3, 1) := by decide +kernel
theorem dX10_hands_64 : decode cX10_hands 64 = .ok (.iconst 0, 1) := by decide +kernel
theorem dX10_hands_65 : decode cX10_hands 65 = .ok (.iastore, 1) := by decide +kernel
theorem dX10_hands_66 : decode cX10_hands 66 = .ok (.iinc 3 1, 3) := by decide +kernel
theorem dX10_hands_69 : decode cX10_hands 69 = .ok (.goto (-15), 3) := by decide +kernel
theorem dX10_hands_72 : decode cX10_hands 72 = .ok (.iconst 0, 1) := by decide +kernel
theorem dX10_hands_73 : decode cX10_hands 73 = .ok (.istore_n 3, 1) := by decide +kernel
theorem dX10_hands_74 : decode cX10_hands 74 = .ok (.iload_n 3, 1) := by decide +kernel
theorem dX10_hands_75 : decode cX10_hands 75 = .ok (.bipush 99, 2) := by decide +kernel
theorem dX10_hands_77 : decode cX10_hands 77 = .ok (.if_icmp .gt 15, 3) := by decide +kernel
theorem dX10_hands_80 : decode cX10_hands 80 = .ok (.aload_n 0, 1) := by decide +kernel
theorem dX10_hands_81 : decode cX10_hands 81 = .ok (.iload_n 2, 1) := by decide +kernel
theorem dX10_hands_82 : decode cX10_hands 82 = .ok (.iload_n 3, 1) := by decide +kernel
theorem dX10_hands_83 : decode cX10_hands 83 = .ok (.invokevirtual 549, 3) := by decide +kernel
theorem dX10_hands_86 : decode cX10_hands 86 = .ok (.iinc 3 1, 3) := by decide +kernel
theorem dX10_hands_89 : decode cX10_hands 89 = .ok (.goto (-15), 3) := by decide +kernel
theorem dX10_hands_92 : decode cX10_hands 92 = .ok (.iconst (-1), 1) := by decide +kernel
theorem dX10_hands_93 : decode cX10_hands 93 = .ok (.istore_n 3, 1) := by decide +kernel
theorem dX10_hands_94 : decode cX10_hands 94 = .ok (.iconst 0, 1) := by decide +kernel
theorem dX10_hands_95 : decode cX10_hands 95 = .ok (.istore 4, 2) := by decide +kernel
theorem dX10_hands_97 : decode cX10_hands 97 = .ok (.iload 4, 2) := by decide +kernel
theorem dX10_hands_99 : decode cX10_hands 99 = .ok (.aload_n 0, 1) := by decide +kernel
theorem dX10_hands_100 : decode cX10_hands 100 = .ok (.getfield 281, 3) := by decide +kernel
theorem dX10_hands_103 : decode cX10_hands 103 = .ok (.if_icmp .ge 21, 3) := by decide +kernel
theorem dX10_hands_106 : decode cX10_hands 106 = .ok (.iload_n 3, 1) := by decide +kernel
theorem dX10_hands_107 : decode cX10_hands 107 = .ok (.aload_n 0, 1) := by decide +kernel
theorem dX10_hands_108 : decode cX10_hands 108 = .ok (.getfield 81, 3) := by decide +kernel
theorem dX10_hands_111 : decode cX10_hands 111 = .ok (.iload 4, 2) := by decide +kernel
theorem dX10_hands_113 : decode cX10_hands 113 = .ok (.iaload, 1) := by decide +kernel
theorem dX10_hands_114 : decode cX10_hands 114 = .ok (.invokestatic 171, 3) := by decide +kernel
theorem dX10_hands_117 : decode cX10_hands 117 = .ok (.istore_n 3, 1) := by decide +kernel
theorem dX10_hands_118 : decode cX10_hands 118 = .ok (.iinc 4 1, 3) := by decide +kernel
theorem dX10_hands_121 : decode cX10_hands 121 = .ok (.goto (-24), 3) := by decide +kernel
theorem dX10_hands_124 : decode cX10_hands 124 = .ok (.iload_n 3, 1) := by decide +kernel
theorem dX10_hands_125 : decode cX10_hands 125 = .ok (.iconst 1, 1) := by decide +kernel
theorem dX10_hands_126 : decode cX10_hands 126 = .ok (.iadd, 1) := by decide +kernel
theorem dX10_hands_127 : decode cX10_hands 127 = .ok (.ireturn, 1) := by decide +kernel
theorem dX10_ofColour_0 : decode cX10_ofColour 0 = .ok (.iconst 0, 1) := by decide +kernel
theorem dX10_ofColour_1 : decode cX10_ofColour 1 = .ok (.istore_n 2, 1) := by decide +kernel
theorem dX10_ofColour_2 : decode cX10_ofColour 2 = .ok (.iconst 0, 1) := by decide +kernel
theorem dX10_ofColour_3 : decode cX10_ofColour 3 = .ok (.istore_n 3, 1) := by decide +kernel
theorem dX10_ofColour_4 : decode cX10_ofColour 4 = .ok (.iload_n 3, 1) := by decide +kernel
theorem dX10_ofColour_5 : decode cX10_ofColour 5 = .ok (.aload_n 0, 1) := by decide +kernel
theorem dX10_ofColour_6 : decode cX10_ofColour 6 = .ok (.getfield 281, 3) := by decide +kernel
theorem dX10_ofColour_9 : decode cX10_ofColour 9 = .ok (.if_icmp .ge 31, 3) := by decide +kernel
theorem dX10_ofColour_12 : decode cX10_ofColour 12 = .ok (.iload_n 2, 1) := by decide +kernel
theorem dX10_ofColour_13 : decode cX10_ofColour 13 = .ok (.aload_n 0, 1) := by decide +kernel
theorem dX10_ofColour_14 : decode cX10_ofColour 14 = .ok (.bipush 11, 2) := by decide +kernel
theorem dX10_ofColour_16 : decode cX10_ofColour 16 = .ok (.iload_n 3, 1) := by decide +kernel
theorem dX10_ofColour_17 : decode cX10_ofColour 17 = .ok (.iadd, 1) := by decide +kernel
theorem dX10_ofColour_18 : decode cX10_ofColour 18 = .ok (.invokevirtual 277, 3) := by decide +kernel
theorem dX10_ofColour_21 : decode cX10_ofColour 21 = .ok (.iload_n 1, 1) := by decide +kernel
theorem dX10_ofColour_22 : decode cX10_ofColour 22 = .ok (.if_icmp .ne 9, 3) := by decide +kernel
theorem dX10_ofColour_25 : decode cX10_ofColour 25 = .ok (.iconst 1, 1) := by decide +kernel
theorem dX10_ofColour_26 : decode cX10_ofColour 26 = .ok (.iload_n 3, 1) := by decide +kernel
theorem dX10_ofColour_27 : decode cX10_ofColour 27 = .ok (.ishl, 1) := by decide +kernel
theorem dX10_ofColour_28 : decode cX10_ofColour 28 = .ok (.goto 4, 3) := by decide +kernel
theorem dX10_ofColour_31 : decode cX10_ofColour 31 = .ok (.iconst 0, 1) := by decide +kernel
theorem dX10_ofColour_32 : decode cX10_ofColour 32 = .ok (.ior, 1) := by decide +kernel
theorem dX10_ofColour_33 : decode cX10_ofColour 33 = .ok (.istore_n 2, 1) := by decide +kernel
theorem dX10_ofColour_34 : decode cX10_ofColour 34 = .ok (.iinc 3 1, 3) := by decide +kernel
theorem dX10_ofColour_37 : decode cX10_ofColour 37 = .ok (.goto (-33), 3) := by decide +kernel
theorem dX10_ofColour_40 : decode cX10_ofColour 40 = .ok (.iload_n 2, 1) := by decide +kernel
theorem dX10_ofColour_41 : decode cX10_ofColour 41 = .ok (.ireturn, 1) := by decide +kernel
theorem dX10_spools_0 : decode cX10_spools 0 = .ok (.aload_n 0, 1) := by decide +kernel
theorem dX10_spools_1 : decode cX10_spools 1 = .ok (.iconst 0, 1) := by decide +kernel
theorem dX10_spools_2 : decode cX10_spools 2 = .ok (.putfield 94, 3) := by decide +kernel
theorem dX10_spools_5 : decode cX10_spools 5 = .ok (.iload_n 2, 1) := by decide +kernel
theorem dX10_spools_6 : decode cX10_spools 6 = .ok (.iconst 1, 1) := by decide +kernel
theorem dX10_spools_7 : decode cX10_spools 7 = .ok (.bipush 60, 2) := by decide +kernel
theorem dX10_spools_9 : decode cX10_spools 9 = .ok (.invokestatic 106, 3) := by decide +kernel
theorem dX10_spools_12 : decode cX10_spools 12 = .ok (.ifCond .eq 11, 3) := by decide +kernel
theorem dX10_spools_15 : decode cX10_spools 15 = .ok (.aload_n 0, 1) := by decide +kernel
theorem dX10_spools_16 : decode cX10_spools 16 = .ok (.iload_n 1, 1) := by decide +kernel
theorem dX10_spools_17 : decode cX10_spools 17 = .ok (.invokevirtual 287, 3) := by decide +kernel
theorem dX10_spools_20 : decode cX10_spools 20 = .ok (.ifCond .ne 5, 3) := by decide +kernel
theorem dX10_spools_23 : decode cX10_spools 23 = .ok (.iconst (-1), 1) := by decide +kernel
theorem dX10_spools_24 : decode cX10_spools 24 = .ok (.ireturn, 1) := by decide +kernel
theorem dX10_spools_25 : decode cX10_spools 25 = .ok (.aload_n 0, 1) := by decide +kernel
theorem dX10_spools_26 : decode cX10_spools 26 = .ok (.getfield 87, 3) := by decide +kernel
theorem dX10_spools_29 : decode cX10_spools 29 = .ok (.iconst 0, 1) := by decide +kernel
theorem dX10_spools_30 : decode cX10_spools 30 = .ok (.iconst 0, 1) := by decide +kernel
theorem dX10_spools_31 : decode cX10_spools 31 = .ok (.iastore, 1) := by decide +kernel
theorem dX10_spools_32 : decode cX10_spools 32 = .ok (.iconst 1, 1) := by decide +kernel
theorem dX10_spools_33 : decode cX10_spools 33 = .ok (.istore_n 3, 1) := by decide +kernel
theorem dX10_spools_34 : decode cX10_spools 34 = .ok (.iload_n 3, 1) := by decide +kernel
theorem dX10_spools_35 : decode cX10_spools 35 = .ok (.iconst 1, 1) := by decide +kernel
theorem dX10_spools_36 : decode cX10_spools 36 = .ok (.aload_n 0, 1) := by decide +kernel
theorem dX10_spools_37 : decode cX10_spools 37 = .ok (.getfield 281, 3) := by decide +kernel
theorem dX10_spools_40 : decode cX10_spools 40 = .ok (.ishl, 1) := by decide +kernel
theorem dX10_spools_41 : decode cX10_spools 41 = .ok (.if_icmp .ge 84, 3) := by decide +kernel
theorem dX10_spools_44 : decode cX10_spools 44 = .ok (.aload_n 0, 1) := by decide +kernel
theorem dX10_spools_45 : decode cX10_spools 45 = .ok (.getfield 87, 3) := by decide +kernel
theorem dX10_spools_48 : decode cX10_spools 48 = .ok (.iload_n 3, 1) := by decide +kernel
theorem dX10_spools_49 : decode cX10_spools 49 = .ok (.ldc_w 382, 3) := by decide +kernel
theorem dX10_spools_52 : decode cX10_spools 52 = .ok (.iastore, 1) := by decide +kernel
theorem dX10_spools_53 : decode cX10_spools 53 = .ok (.iload_n 3, 1) := by decide +kernel
theorem dX10_spools_54 : decode cX10_spools 54 = .ok (.istore 4, 2) := by decide +kernel
theorem dX10_spools_56 : decode cX10_spools 56 = .ok (.iload 4, 2) := by decide +kernel
theorem dX10_spools_58 : decode cX10_spools 58 = .ok (.ifCond .le 61, 3) := by decide +kernel
theorem dX10_spools_61 : decode cX10_spools 61 = .ok (.aload_n 0, 1) := by decide +kernel
theorem dX10_spools_62 : decode cX10_spools 62 = .ok (.getfield 87, 3) := by decide +kernel
theorem dX10_spools_65 : decode cX10_spools 65 = .ok (.iload_n 3, 1) := by decide +kernel
theorem dX10_spools_66 : decode cX10_spools 66 = .ok (.aload_n 0, 1) := by decide +kernel
theorem dX10_spools_67 : decode cX10_spools 67 = .ok (.iload 4, 2) := by decide +kernel
theorem dX10_spools_69 : decode cX10_spools 69 = .ok (.invokevirtual 376, 3) := by decide +kernel
theorem dX10_spools_72 : decode cX10_spools 72 = .ok (.iload_n 2, 1) := by decide +kernel
theorem dX10_spools_73 : decode cX10_spools 73 = .ok (.if_icmp .gt 28, 3) := by decide +kernel
theorem dX10_spools_76 : decode cX10_spools 76 = .ok (.aload_n 0, 1) := by decide +kernel
theorem dX10_spools_77 : decode cX10_spools 77 = .ok (.getfield 87, 3) := by decide +kernel
theorem dX10_spools_80 : decode cX10_spools 80 = .ok (.iload_n 3, 1) := by decide +kernel
theorem dX10_spools_81 : decode cX10_spools 81 = .ok (.iaload, 1) := by decide +kernel
theorem dX10_spools_82 : decode cX10_spools 82 = .ok (.iconst 1, 1) := by decide +kernel
theorem dX10_spools_83 : decode cX10_spools 83 = .ok (.aload_n 0, 1) := by decide +kernel
theorem dX10_spools_84 : decode cX10_spools 84 = .ok (.getfield 87, 3) := by decide +kernel
theorem dX10_spools_87 : decode cX10_spools 87 = .ok (.iload_n 3, 1) := by decide +kernel
theorem dX10_spools_88 : decode cX10_spools 88 = .ok (.iload 4, 2) := by decide +kernel
theorem dX10_spools_90 : decode cX10_spools 90 = .ok (.iconst (-1), 1) := by decide +kernel
theorem dX10_spools_91 : decode cX10_spools 91 = .ok (.ixor, 1) := by decide +kernel
theorem dX10_spools_92 : decode cX10_spools 92 = .ok (.iand, 1) := by decide +kernel
theorem dX10_spools_93 : decode cX10_spools 93 = .ok (.iaload, 1) := by decide +kernel
theorem dX10_spools_94 : decode cX10_spools 94 = .ok (.iadd, 1) := by decide +kernel
theorem dX10_spools_95 : decode cX10_spools 95 = .ok (.invokestatic 326, 3) := by decide +kernel
theorem dX10_spools_98 : decode cX10_spools 98 = .ok (.goto 9, 3) := by decide +kernel
theorem dX10_spools_101 : decode cX10_spools 101 = .ok (.aload_n 0, 1) := by decide +kernel
theorem dX10_spools_102 : decode cX10_spools 102 = .ok (.getfield 87, 3) := by decide +kernel
theorem dX10_spools_105 : decode cX10_spools 105 = .ok (.iload_n 3, 1) := by decide +kernel
theorem dX10_spools_106 : decode cX10_spools 106 = .ok (.iaload, 1) := by decide +kernel
theorem dX10_spools_107 : decode cX10_spools 107 = .ok (.iastore, 1) := by decide +kernel
theorem dX10_spools_108 : decode cX10_spools 108 = .ok (.iload 4, 2) := by decide +kernel
theorem dX10_spools_110 : decode cX10_spools 110 = .ok (.iconst 1, 1) := by decide +kernel
theorem dX10_spools_111 : decode cX10_spools 111 = .ok (.isub, 1) := by decide +kernel
theorem dX10_spools_112 : decode cX10_spools 112 = .ok (.iload_n 3, 1) := by decide +kernel
theorem dX10_spools_113 : decode cX10_spools 113 = .ok (.iand, 1) := by decide +kernel
theorem dX10_spools_114 : decode cX10_spools 114 = .ok (.istore 4, 2) := by decide +kernel
theorem dX10_spools_116 : decode cX10_spools 116 = .ok (.goto (-60), 3) := by decide +kernel
theorem dX10_spools_119 : decode cX10_spools 119 = .ok (.iinc 3 1, 3) := by decide +kernel
theorem dX10_spools_122 : decode cX10_spools 122 = .ok (.goto (-88), 3) := by decide +kernel
theorem dX10_spools_125 : decode cX10_spools 125 = .ok (.iconst 0, 1) := by decide +kernel
theorem dX10_spools_126 : decode cX10_spools 126 = .ok (.istore_n 3, 1) := by decide +kernel
theorem dX10_spools_127 : decode cX10_spools 127 = .ok (.iconst 0, 1) := by decide +kernel
theorem dX10_spools_128 : decode cX10_spools 128 = .ok (.istore 4, 2) := by decide +kernel
theorem dX10_spools_130 : decode cX10_spools 130 = .ok (.iload 4, 2) := by decide +kernel
theorem dX10_spools_132 : decode cX10_spools 132 = .ok (.iconst 4, 1) := by decide +kernel
theorem dX10_spools_133 : decode cX10_spools 133 = .ok (.if_icmp .ge 23, 3) := by decide +kernel
theorem dX10_spools_136 : decode cX10_spools 136 = .ok (.iload_n 3, 1) := by decide +kernel
theorem dX10_spools_137 : decode cX10_spools 137 = .ok (.aload_n 0, 1) := by decide +kernel
theorem dX10_spools_138 : decode cX10_spools 138 = .ok (.getfield 87, 3) := by decide +kernel
theorem dX10_spools_141 : decode cX10_spools 141 = .ok (.aload_n 0, 1) := by decide +kernel
theorem dX10_spools_142 : decode cX10_spools 142 = .ok (.iload 4, 2) := by decide +kernel
theorem dX10_spools_144 : decode cX10_spools 144 = .ok (.invokevirtual 552, 3) := by decide +kernel
theorem dX10_spools_147 : decode cX10_spools 147 = .ok (.iaload, 1) := by decide +kernel
theorem dX10_spools_148 : decode cX10_spools 148 = .ok (.iadd, 1) := by decide +kernel
theorem dX10_spools_149 : decode cX10_spools 149 = .ok (.istore_n 3, 1) := by decide +kernel
theorem dX10_spools_150 : decode cX10_spools 150 = .ok (.iinc 4 1, 3) := by decide +kernel
theorem dX10_spools_153 : decode cX10_spools 153 = .ok (.goto (-23), 3) := by decide +kernel
theorem dX10_spools_156 : decode cX10_spools 156 = .ok (.iload_n 3, 1) := by decide +kernel
theorem dX10_spools_157 : decode cX10_spools 157 = .ok (.ldc_w 382, 3) := by decide +kernel
theorem dX10_spools_160 : decode cX10_spools 160 = .ok (.if_icmp .lt 7, 3) := by decide +kernel
theorem dX10_spools_163 : decode cX10_spools 163 = .ok (.iconst (-1), 1) := by decide +kernel
theorem dX10_spools_164 : decode cX10_spools 164 = .ok (.goto 4, 3) := by decide +kernel
theorem dX10_spools_167 : decode cX10_spools 167 = .ok (.iload_n 3, 1) := by decide +kernel
theorem dX10_spools_168 : decode cX10_spools 168 = .ok (.ireturn, 1) := by decide +kernel
theorem dX10_grown_0 : decode cX10_grown 0 = .ok (.aload_n 0, 1) := by decide +kernel
theorem dX10_grown_1 : decode cX10_grown 1 = .ok (.iconst 0, 1) := by decide +kernel
theorem dX10_grown_2 : decode cX10_grown 2 = .ok (.putfield 94, 3) := by decide +kernel
theorem dX10_grown_5 : decode cX10_grown 5 = .ok (.aload_n 0, 1) := by decide +kernel
theorem dX10_grown_6 : decode cX10_grown 6 = .ok (.iload_n 1, 1) := by decide +kernel
theorem dX10_grown_7 : decode cX10_grown 7 = .ok (.invokevirtual 287, 3) := by decide +kernel
theorem dX10_grown_10 : decode cX10_grown 10 = .ok (.ifCond .ne 5, 3) := by decide +kernel
theorem dX10_grown_13 : decode cX10_grown 13 = .ok (.iconst (-1), 1) := by decide +kernel
theorem dX10_grown_14 : decode cX10_grown 14 = .ok (.ireturn, 1) := by decide +kernel
theorem dX10_grown_15 : decode cX10_grown 15 = .ok (.iconst 0, 1) := by decide +kernel
theorem dX10_grown_16 : decode cX10_grown 16 = .ok (.istore_n 3, 1) := by decide +kernel
theorem dX10_grown_17 : decode cX10_grown 17 = .ok (.iconst 0, 1) := by decide +kernel
theorem dX10_grown_18 : decode cX10_grown 18 = .ok (.istore 4, 2) := by decide +kernel
theorem dX10_grown_20 : decode cX10_grown 20 = .ok (.iload 4, 2) := by decide +kernel
theorem dX10_grown_22 : decode cX10_grown 22 = .ok (.bipush 99, 2) := by decide +kernel
theorem dX10_grown_24 : decode cX10_grown 24 = .ok (.if_icmp .gt 29, 3) := by decide +kernel
theorem dX10_grown_27 : decode cX10_grown 27 = .ok (.iload_n 3, 1) := by decide +kernel
theorem dX10_grown_28 : decode cX10_grown 28 = .ok (.aload_n 0, 1) := by decide +kernel
theorem dX10_grown_29 : decode cX10_grown 29 = .ok (.bipush 38, 2) := by decide +kernel
theorem dX10_grown_31 : decode cX10_grown 31 = .ok (.iload 4, 2) := by decide +kernel
theorem dX10_grown_33 : decode cX10_grown 33 = .ok (.iadd, 1) := by decide +kernel
theorem dX10_grown_34 : decode cX10_grown 34 = .ok (.invokevirtual 277, 3) := by decide +kernel
theorem dX10_grown_37 : decode cX10_grown 37 = .ok (.iadd, 1) := by decide +kernel
theorem dX10_grown_38 : decode cX10_grown 38 = .ok (.istore_n 3, 1) := by decide +kernel
theorem dX10_grown_39 : decode cX10_grown 39 = .ok (.iload_n 3, 1) := by decide +kernel
theorem dX10_grown_40 : decode cX10_grown 40 = .ok (.iload_n 2, 1) := by decide +kernel
theorem dX10_grown_41 : decode cX10_grown 41 = .ok (.if_icmp .lt 6, 3) := by decide +kernel
theorem dX10_grown_44 : decode cX10_grown 44 = .ok (.iload 4, 2) := by decide +kernel
theorem dX10_grown_46 : decode cX10_grown 46 = .ok (.ireturn, 1) := by decide +kernel
theorem dX10_grown_47 : decode cX10_grown 47 = .ok (.iinc 4 1, 3) := by decide +kernel
theorem dX10_grown_50 : decode cX10_grown 50 = .ok (.goto (-30), 3) := by decide +kernel
theorem dX10_grown_53 : decode cX10_grown 53 = .ok (.iconst (-1), 1) := by decide +kernel
theorem dX10_grown_54 : decode cX10_grown 54 = .ok (.ireturn, 1) := by decide +kernel
theorem dX10_home_0 : decode cX10_home 0 = .ok (.aload_n 0, 1) := by decide +kernel
theorem dX10_home_1 : decode cX10_home 1 = .ok (.iconst 0, 1) := by decide +kernel
theorem dX10_home_2 : decode cX10_home 2 = .ok (.putfield 94, 3) := by decide +kernel
theorem dX10_home_5 : decode cX10_home 5 = .ok (.aload_n 0, 1) := by decide +kernel
theorem dX10_home_6 : decode cX10_home 6 = .ok (.iload_n 1, 1) := by decide +kernel
theorem dX10_home_7 : decode cX10_home 7 = .ok (.invokevirtual 438, 3) := by decide +kernel
theorem dX10_home_10 : decode cX10_home 10 = .ok (.ifCond .eq 10, 3) := by decide +kernel
theorem dX10_home_13 : decode cX10_home 13 = .ok (.aload_n 0, 1) := by decide +kernel
theorem dX10_home_14 : decode cX10_home 14 = .ok (.getfield 429, 3) := by decide +kernel
theorem dX10_home_17 : decode cX10_home 17 = .ok (.ifCond .ne 5, 3) := by decide +kernel
theorem dX10_home_20 : decode cX10_home 20 = .ok (.iconst (-1), 1) := by decide +kernel
theorem dX10_home_21 : decode cX10_home 21 = .ok (.ireturn, 1) := by decide +kernel
theorem dX10_home_22 : decode cX10_home 22 = .ok (.iconst (-1), 1) := by decide +kernel
theorem dX10_home_23 : decode cX10_home 23 = .ok (.istore_n 3, 1) := by decide +kernel
theorem dX10_home_24 : decode cX10_home 24 = .ok (.ldc_w 382, 3) := by decide +kernel
theorem dX10_home_27 : decode cX10_home 27 = .ok (.istore 4, 2) := by decide +kernel
theorem dX10_home_29 : decode cX10_home 29 = .ok (.iconst 0, 1) := by decide +kernel
theorem dX10_home_30 : decode cX10_home 30 = .ok (.istore 5, 2) := by decide +kernel
theorem dX10_home_32 : decode cX10_home 32 = .ok (.iload 5, 2) := by decide +kernel
theorem dX10_home_34 : decode cX10_home 34 = .ok (.bipush 100, 2) := by decide +kernel
theorem dX10_home_36 : decode cX10_home 36 = .ok (.if_icmp .ge 58, 3) := by decide +kernel
theorem dX10_home_39 : decode cX10_home 39 = .ok (.aload_n 0, 1) := by decide +kernel
theorem dX10_home_40 : decode cX10_home 40 = .ok (.iload 5, 2) := by decide +kernel
theorem dX10_home_42 : decode cX10_home 42 = .ok (.bipush 10, 2) := by decide +kernel
theorem dX10_home_44 : decode cX10_home 44 = .ok (.irem, 1) := by decide +kernel
theorem dX10_home_45 : decode cX10_home 45 = .ok (.putfield 432, 3) := by decide +kernel
theorem dX10_home_48 : decode cX10_home 48 = .ok (.aload_n 0, 1) := by decide +kernel
theorem dX10_home_49 : decode cX10_home 49 = .ok (.iload 5, 2) := by decide +kernel
theorem dX10_home_51 : decode cX10_home 51 = .ok (.bipush 10, 2) := by decide +kernel
theorem dX10_home_53 : decode cX10_home 53 = .ok (.idiv, 1) := by decide +kernel
theorem dX10_home_54 : decode cX10_home 54 = .ok (.putfield 435, 3) := by decide +kernel
theorem dX10_home_57 : decode cX10_home 57 = .ok (.aload_n 0, 1) := by decide +kernel
theorem dX10_home_58 : decode cX10_home 58 = .ok (.invokevirtual 481, 3) := by decide +kernel
theorem dX10_home_61 : decode cX10_home 61 = .ok (.aload_n 0, 1) := by decide +kernel
theorem dX10_home_62 : decode cX10_home 62 = .ok (.getfield 463, 3) := by decide +kernel
theorem dX10_home_65 : decode cX10_home 65 = .ok (.iload 4, 2) := by decide +kernel
theorem dX10_home_67 : decode cX10_home 67 = .ok (.if_icmp .ge 8, 3) := by decide +kernel
theorem dX10_home_70 : decode cX10_home 70 = .ok (.iload 5, 2) := by decide +kernel
theorem dX10_home_72 : decode cX10_home 72 = .ok (.goto 4, 3) := by decide +kernel
theorem dX10_home_75 : decode cX10_home 75 = .ok (.iload_n 3, 1) := by decide +kernel
theorem dX10_home_76 : decode cX10_home 76 = .ok (.istore_n 3, 1) := by decide +kernel
theorem dX10_home_77 : decode cX10_home 77 = .ok (.iload 4, 2) := by decide +kernel
theorem dX10_home_79 : decode cX10_home 79 = .ok (.aload_n 0, 1) := by decide +kernel
theorem dX10_home_80 : decode cX10_home 80 = .ok (.getfield 463, 3) := by decide +kernel
theorem dX10_home_83 : decode cX10_home 83 = .ok (.invokestatic 326, 3) := by decide +kernel
theorem dX10_home_86 : decode cX10_home 86 = .ok (.istore 4, 2) := by decide +kernel
theorem dX10_home_88 : decode cX10_home 88 = .ok (.iinc 5 1, 3) := by decide +kernel
theorem dX10_home_91 : decode cX10_home 91 = .ok (.goto (-59), 3) := by decide +kernel
theorem dX10_home_94 : decode cX10_home 94 = .ok (.iload_n 2, 1) := by decide +kernel
theorem dX10_home_95 : decode cX10_home 95 = .ok (.ifCond .eq 7, 3) := by decide +kernel
theorem dX10_home_98 : decode cX10_home 98 = .ok (.iload_n 3, 1) := by decide +kernel
theorem dX10_home_99 : decode cX10_home 99 = .ok (.goto 5, 3) := by decide +kernel
theorem dX10_home_102 : decode cX10_home 102 = .ok (.iload 4, 2) := by decide +kernel
theorem dX10_home_104 : decode cX10_home 104 = .ok (.ireturn, 1) := by decide +kernel
theorem dX10_way_0 : decode cX10_way 0 = .ok (.aload_n 0, 1) := by decide +kernel
theorem dX10_way_1 : decode cX10_way 1 = .ok (.iconst 0, 1) := by decide +kernel
theorem dX10_way_2 : decode cX10_way 2 = .ok (.putfield 94, 3) := by decide +kernel
theorem dX10_way_5 : decode cX10_way 5 = .ok (.aload_n 0, 1) := by decide +kernel
theorem dX10_way_6 : decode cX10_way 6 = .ok (.iload_n 1, 1) := by decide +kernel
theorem dX10_way_7 : decode cX10_way 7 = .ok (.invokevirtual 438, 3) := by decide +kernel
theorem dX10_way_10 : decode cX10_way 10 = .ok (.ifCond .eq 28, 3) := by decide +kernel
theorem dX10_way_13 : decode cX10_way 13 = .ok (.aload_n 0, 1) := by decide +kernel
theorem dX10_way_14 : decode cX10_way 14 = .ok (.iload_n 2, 1) := by decide +kernel
theorem dX10_way_15 : decode cX10_way 15 = .ok (.invokevirtual 441, 3) := by decide +kernel
theorem dX10_way_18 : decode cX10_way 18 = .ok (.ifCond .eq 20, 3) := by decide +kernel
theorem dX10_way_21 : decode cX10_way 21 = .ok (.aload_n 0, 1) := by decide +kernel
theorem dX10_way_22 : decode cX10_way 22 = .ok (.iload_n 3, 1) := by decide +kernel
theorem dX10_way_23 : decode cX10_way 23 = .ok (.invokevirtual 441, 3) := by decide +kernel
theorem dX10_way_26 : decode cX10_way 26 = .ok (.ifCond .eq 12, 3) := by decide +kernel
theorem dX10_way_29 : decode cX10_way 29 = .ok (.aload_n 0, 1) := by decide +kernel
theorem dX10_way_30 : decode cX10_way 30 = .ok (.iload_n 2, 1) := by decide +kernel
theorem dX10_way_31 : decode cX10_way 31 = .ok (.iload_n 3, 1) := by decide +kernel
theorem dX10_way_32 : decode cX10_way 32 = .ok (.invokevirtual 448, 3) := by decide +kernel
theorem dX10_way_35 : decode cX10_way 35 = .ok (.goto 4, 3) := by decide +kernel
theorem dX10_way_38 : decode cX10_way 38 = .ok (.iconst (-1), 1) := by decide +kernel
theorem dX10_way_39 : decode cX10_way 39 = .ok (.ireturn, 1) := by decide +kernel
theorem dX10_enough_0 : decode cX10_enough 0 = .ok (.aload_n 0, 1) := by decide +kernel
theorem dX10_enough_1 : decode cX10_enough 1 = .ok (.iconst 0, 1) := by decide +kernel
theorem dX10_enough_2 : decode cX10_enough 2 = .ok (.putfield 94, 3) := by decide +kernel
theorem dX10_enough_5 : decode cX10_enough 5 = .ok (.iload_n 1, 1) := by decide +kernel
theorem dX10_enough_6 : decode cX10_enough 6 = .ok (.iconst 1, 1) := by decide +kernel
theorem dX10_enough_7 : decode cX10_enough 7 = .ok (.bipush 12, 2) := by decide +kernel
theorem dX10_enough_9 : decode cX10_enough 9 = .ok (.invokestatic 106, 3) := by decide +kernel
theorem dX10_enough_12 : decode cX10_enough 12 = .ok (.ifCond .eq 23, 3) := by decide +kernel
theorem dX10_enough_15 : decode cX10_enough 15 = .ok (.iload_n 2, 1) := by decide +kernel
theorem dX10_enough_16 : decode cX10_enough 16 = .ok (.iconst 0, 1) := by decide +kernel
theorem dX10_enough_17 : decode cX10_enough 17 = .ok (.bipush 10, 2) := by decide +kernel
theorem dX10_enough_19 : decode cX10_enough 19 = .ok (.invokestatic 106, 3) := by decide +kernel
theorem dX10_enough_22 : decode cX10_enough 22 = .ok (.ifCond .eq 13, 3) := by decide +kernel
theorem dX10_enough_25 : decode cX10_enough 25 = .ok (.iload_n 3, 1) := by decide +kernel
theorem dX10_enough_26 : decode cX10_enough 26 = .ok (.iconst 0, 1) := by decide +kernel
theorem dX10_enough_27 : decode cX10_enough 27 = .ok (.bipush 12, 2) := by decide +kernel
theorem dX10_enough_29 : decode cX10_enough 29 = .ok (.invokestatic 106, 3) := by decide +kernel
theorem dX10_enough_32 : decode cX10_enough 32 = .ok (.ifCond .ne 7, 3) := by decide +kernel
theorem dX10_enough_35 : decode cX10_enough 35 = .ok (.ldc2_w 368, 3) := by decide +kernel
theorem dX10_enough_38 : decode cX10_enough 38 = .ok (.lreturn, 1) := by decide +kernel
theorem dX10_enough_39 : decode cX10_enough 39 = .ok (.lconst 0, 1) := by decide +kernel
theorem dX10_enough_40 : decode cX10_enough 40 = .ok (.lstore 5, 2) := by decide +kernel
theorem dX10_enough_42 : decode cX10_enough 42 = .ok (.iconst 0, 1) := by decide +kernel
theorem dX10_enough_43 : decode cX10_enough 43 = .ok (.istore 7, 2) := by decide +kernel
theorem dX10_enough_45 : decode cX10_enough 45 = .ok (.iload 7, 2) := by decide +kernel
theorem dX10_enough_47 : decode cX10_enough 47 = .ok (.iload_n 3, 1) := by decide +kernel
theorem dX10_enough_48 : decode cX10_enough 48 = .ok (.if_icmp .gt 27, 3) := by decide +kernel
theorem dX10_enough_51 : decode cX10_enough 51 = .ok (.iload 7, 2) := by decide +kernel
theorem dX10_enough_53 : decode cX10_enough 53 = .ok (.iload_n 1, 1) := by decide +kernel
theorem dX10_enough_54 : decode cX10_enough 54 = .ok (.if_icmp .gt 21, 3) := by decide +kernel
theorem dX10_enough_57 : decode cX10_enough 57 = .ok (.lload 5, 2) := by decide +kernel
theorem dX10_enough_59 : decode cX10_enough 59 = .ok (.iload_n 1, 1) := by decide +kernel
theorem dX10_enough_60 : decode cX10_enough 60 = .ok (.iload 7, 2) := by decide +kernel
theorem dX10_enough_62 : decode cX10_enough 62 = .ok (.iload_n 2, 1) := by decide +kernel
theorem dX10_enough_63 : decode cX10_enough 63 = .ok (.invokestatic 493, 3) := by decide +kernel
theorem dX10_enough_66 : decode cX10_enough 66 = .ok (.ladd, 1) := by decide +kernel
theorem dX10_enough_67 : decode cX10_enough 67 = .ok (.lstore 5, 2) := by decide +kernel
theorem dX10_enough_69 : decode cX10_enough 69 = .ok (.iinc 7 1, 3) := by decide +kernel
theorem dX10_enough_72 : decode cX10_enough 72 = .ok (.goto (-27), 3) := by decide +kernel
theorem dX10_enough_75 : decode cX10_enough 75 = .ok (.iload_n 1, 1) := by decide +kernel
theorem dX10_enough_76 : decode cX10_enough 76 = .ok (.invokestatic 489, 3) := by decide +kernel
theorem dX10_enough_79 : decode cX10_enough 79 = .ok (.lload 5, 2) := by decide +kernel
theorem dX10_enough_81 : decode cX10_enough 81 = .ok (.invokestatic 501, 3) := by decide +kernel
theorem dX10_enough_84 : decode cX10_enough 84 = .ok (.lstore 7, 2) := by decide +kernel
theorem dX10_enough_86 : decode cX10_enough 86 = .ok (.iload 4, 2) := by decide +kernel
theorem dX10_enough_88 : decode cX10_enough 88 = .ok (.ifCond .eq 10, 3) := by decide +kernel
theorem dX10_enough_91 : decode cX10_enough 91 = .ok (.iload_n 1, 1) := by decide +kernel
theorem dX10_enough_92 : decode cX10_enough 92 = .ok (.invokestatic 489, 3) := by decide +kernel
theorem dX10_enough_95 : decode cX10_enough 95 = .ok (.goto 5, 3) := by decide +kernel
theorem dX10_enough_98 : decode cX10_enough 98 = .ok (.lload 5, 2) := by decide +kernel
theorem dX10_enough_100 : decode cX10_enough 100 = .ok (.lload 7, 2) := by decide +kernel
theorem dX10_enough_102 : decode cX10_enough 102 = .ok (.ldiv, 1) := by decide +kernel
theorem dX10_enough_103 : decode cX10_enough 103 = .ok (.lreturn, 1) := by decide +kernel
theorem dX10_count_0 : decode cX10_count 0 = .ok (.aload_n 0, 1) := by decide +kernel
theorem dX10_count_1 : decode cX10_count 1 = .ok (.iconst 0, 1) := by decide +kernel
theorem dX10_count_2 : decode cX10_count 2 = .ok (.putfield 94, 3) := by decide +kernel
theorem dX10_count_5 : decode cX10_count 5 = .ok (.iload_n 1, 1) := by decide +kernel
theorem dX10_count_6 : decode cX10_count 6 = .ok (.iconst 0, 1) := by decide +kernel
theorem dX10_count_7 : decode cX10_count 7 = .ok (.iconst 3, 1) := by decide +kernel
theorem dX10_count_8 : decode cX10_count 8 = .ok (.invokestatic 106, 3) := by decide +kernel
theorem dX10_count_11 : decode cX10_count 11 = .ok (.ifCond .eq 12, 3) := by decide +kernel
theorem dX10_count_14 : decode cX10_count 14 = .ok (.aload_n 0, 1) := by decide +kernel
theorem dX10_count_15 : decode cX10_count 15 = .ok (.getfield 23, 3) := by decide +kernel
theorem dX10_count_18 : decode cX10_count 18 = .ok (.iload_n 1, 1) := by decide +kernel
theorem dX10_count_19 : decode cX10_count 19 = .ok (.iaload, 1) := by decide +kernel
theorem dX10_count_20 : decode cX10_count 20 = .ok (.goto 5, 3) := by decide +kernel
theorem dX10_count_23 : decode cX10_count 23 = .ok (.bipush (-2), 2) := by decide +kernel
theorem dX10_count_25 : decode cX10_count 25 = .ok (.ireturn, 1) := by decide +kernel
theorem dX10_image_0 : decode cX10_image 0 = .ok (.aload_n 0, 1) := by decide +kernel
theorem dX10_image_1 : decode cX10_image 1 = .ok (.iconst 0, 1) := by decide +kernel
theorem dX10_image_2 : decode cX10_image 2 = .ok (.putfield 94, 3) := by decide +kernel
theorem dX10_image_5 : decode cX10_image 5 = .ok (.iload_n 1, 1) := by decide +kernel
theorem dX10_image_6 : decode cX10_image 6 = .ok (.iconst 0, 1) := by decide +kernel
theorem dX10_image_7 : decode cX10_image 7 = .ok (.iconst 2, 1) := by decide +kernel
theorem dX10_image_8 : decode cX10_image 8 = .ok (.invokestatic 106, 3) := by decide +kernel
theorem dX10_image_11 : decode cX10_image 11 = .ok (.ifCond .ne 5, 3) := by decide +kernel
theorem dX10_image_14 : decode cX10_image 14 = .ok (.iconst 0, 1) := by decide +kernel
theorem dX10_image_15 : decode cX10_image 15 = .ok (.ireturn, 1) := by decide +kernel
theorem dX10_image_16 : decode cX10_image 16 = .ok (.aload_n 0, 1) := by decide +kernel
theorem dX10_image_17 : decode cX10_image 17 = .ok (.iconst 0, 1) := by decide +kernel
theorem dX10_image_18 : decode cX10_image 18 = .ok (.iload_n 1, 1) := by decide +kernel
theorem dX10_image_19 : decode cX10_image 19 = .ok (.iconst 1, 1) := by decide +kernel
theorem dX10_image_20 : decode cX10_image 20 = .ok (.iadd, 1) := by decide +kernel
theorem dX10_image_21 : decode cX10_image 21 = .ok (.invokevirtual 555, 3) := by decide +kernel
theorem dX10_image_24 : decode cX10_image 24 = .ok (.aload_n 0, 1) := by decide +kernel
theorem dX10_image_25 : decode cX10_image 25 = .ok (.getfield 90, 3) := by decide +kernel
theorem dX10_image_28 : decode cX10_image 28 = .ok (.iload_n 1, 1) := by decide +kernel
theorem dX10_image_29 : decode cX10_image 29 = .ok (.iconst 1, 1) := by decide +kernel
theorem dX10_image_30 : decode cX10_image 30 = .ok (.bastore, 1) := by decide +kernel
theorem dX10_image_31 : decode cX10_image 31 = .ok (.iconst 1, 1) := by decide +kernel
theorem dX10_image_32 : decode cX10_image 32 = .ok (.ireturn, 1) := by decide +kernel
theorem dX10_again_0 : decode cX10_again 0 = .ok (.aload_n 0, 1) := by decide +kernel
theorem dX10_again_1 : decode cX10_again 1 = .ok (.iconst 0, 1) := by decide +kernel
theorem dX10_again_2 : decode cX10_again 2 = .ok (.putfield 94, 3) := by decide +kernel
theorem dX10_again_5 : decode cX10_again 5 = .ok (.iload_n 1, 1) := by decide +kernel
theorem dX10_again_6 : decode cX10_again 6 = .ok (.iconst 0, 1) := by decide +kernel
theorem dX10_again_7 : decode cX10_again 7 = .ok (.iconst 2, 1) := by decide +kernel
theorem dX10_again_8 : decode cX10_again 8 = .ok (.invokestatic 106, 3) := by decide +kernel
theorem dX10_again_11 : decode cX10_again 11 = .ok (.ifCond .eq 12, 3) := by decide +kernel
theorem dX10_again_14 : decode cX10_again 14 = .ok (.aload_n 0, 1) := by decide +kernel
theorem dX10_again_15 : decode cX10_again 15 = .ok (.getfield 90, 3) := by decide +kernel
theorem dX10_again_18 : decode cX10_again 18 = .ok (.iload_n 1, 1) := by decide +kernel
theorem dX10_again_19 : decode cX10_again 19 = .ok (.baload, 1) := by decide +kernel
theorem dX10_again_20 : decode cX10_again 20 = .ok (.ifCond .ne 5, 3) := by decide +kernel
theorem dX10_again_23 : decode cX10_again 23 = .ok (.iconst 0, 1) := by decide +kernel
theorem dX10_again_24 : decode cX10_again 24 = .ok (.ireturn, 1) := by decide +kernel
theorem dX10_again_25 : decode cX10_again 25 = .ok (.aload_n 0, 1) := by decide +kernel
theorem dX10_again_26 : decode cX10_again 26 = .ok (.iload_n 1, 1) := by decide +kernel
theorem dX10_again_27 : decode cX10_again 27 = .ok (.iconst 1, 1) := by decide +kernel
theorem dX10_again_28 : decode cX10_again 28 = .ok (.iadd, 1) := by decide +kernel
theorem dX10_again_29 : decode cX10_again 29 = .ok (.iconst 0, 1) := by decide +kernel
theorem dX10_again_30 : decode cX10_again 30 = .ok (.invokevirtual 555, 3) := by decide +kernel
theorem dX10_again_33 : decode cX10_again 33 = .ok (.iconst 1, 1) := by decide +kernel
theorem dX10_again_34 : decode cX10_again 34 = .ok (.ireturn, 1) := by decide +kernel
theorem dJ6_bitCount_0f7a4_0 : decode cJ6_bitCount_0f7a4 0 = .ok (.iload_n 0, 1) := by decide +kernel
theorem dJ6_bitCount_0f7a4_1 : decode cJ6_bitCount_0f7a4 1 = .ok (.iload_n 0, 1) := by decide +kernel
theorem dJ6_bitCount_0f7a4_2 : decode cJ6_bitCount_0f7a4 2 = .ok (.iconst 1, 1) := by decide +kernel
theorem dJ6_bitCount_0f7a4_3 : decode cJ6_bitCount_0f7a4 3 = .ok (.iushr, 1) := by decide +kernel
theorem dJ6_bitCount_0f7a4_4 : decode cJ6_bitCount_0f7a4 4 = .ok (.ldc_w 265, 3) := by decide +kernel
theorem dJ6_bitCount_0f7a4_7 : decode cJ6_bitCount_0f7a4 7 = .ok (.iand, 1) := by decide +kernel
theorem dJ6_bitCount_0f7a4_8 : decode cJ6_bitCount_0f7a4 8 = .ok (.isub, 1) := by decide +kernel
theorem dJ6_bitCount_0f7a4_9 : decode cJ6_bitCount_0f7a4 9 = .ok (.istore_n 0, 1) := by decide +kernel
theorem dJ6_bitCount_0f7a4_10 : decode cJ6_bitCount_0f7a4 10 = .ok (.iload_n 0, 1) := by decide +kernel
theorem dJ6_bitCount_0f7a4_11 : decode cJ6_bitCount_0f7a4 11 = .ok (.ldc_w 266, 3) := by decide +kernel
theorem dJ6_bitCount_0f7a4_14 : decode cJ6_bitCount_0f7a4 14 = .ok (.iand, 1) := by decide +kernel
theorem dJ6_bitCount_0f7a4_15 : decode cJ6_bitCount_0f7a4 15 = .ok (.iload_n 0, 1) := by decide +kernel
theorem dJ6_bitCount_0f7a4_16 : decode cJ6_bitCount_0f7a4 16 = .ok (.iconst 2, 1) := by decide +kernel
theorem dJ6_bitCount_0f7a4_17 : decode cJ6_bitCount_0f7a4 17 = .ok (.iushr, 1) := by decide +kernel
theorem dJ6_bitCount_0f7a4_18 : decode cJ6_bitCount_0f7a4 18 = .ok (.ldc_w 266, 3) := by decide +kernel
theorem dJ6_bitCount_0f7a4_21 : decode cJ6_bitCount_0f7a4 21 = .ok (.iand, 1) := by decide +kernel
theorem dJ6_bitCount_0f7a4_22 : decode cJ6_bitCount_0f7a4 22 = .ok (.iadd, 1) := by decide +kernel
theorem dJ6_bitCount_0f7a4_23 : decode cJ6_bitCount_0f7a4 23 = .ok (.istore_n 0, 1) := by decide +kernel
theorem dJ6_bitCount_0f7a4_24 : decode cJ6_bitCount_0f7a4 24 = .ok (.iload_n 0, 1) := by decide +kernel
theorem dJ6_bitCount_0f7a4_25 : decode cJ6_bitCount_0f7a4 25 = .ok (.iload_n 0, 1) := by decide +kernel
theorem dJ6_bitCount_0f7a4_26 : decode cJ6_bitCount_0f7a4 26 = .ok (.iconst 4, 1) := by decide +kernel
theorem dJ6_bitCount_0f7a4_27 : decode cJ6_bitCount_0f7a4 27 = .ok (.iushr, 1) := by decide +kernel
theorem dJ6_bitCount_0f7a4_28 : decode cJ6_bitCount_0f7a4 28 = .ok (.iadd, 1) := by decide +kernel
theorem dJ6_bitCount_0f7a4_29 : decode cJ6_bitCount_0f7a4 29 = .ok (.ldc_w 267, 3) := by decide +kernel
theorem dJ6_bitCount_0f7a4_32 : decode cJ6_bitCount_0f7a4 32 = .ok (.iand, 1) := by decide +kernel
theorem dJ6_bitCount_0f7a4_33 : decode cJ6_bitCount_0f7a4 33 = .ok (.istore_n 0, 1) := by decide +kernel
theorem dJ6_bitCount_0f7a4_34 : decode cJ6_bitCount_0f7a4 34 = .ok (.iload_n 0, 1) := by decide +kernel
theorem dJ6_bitCount_0f7a4_35 : decode cJ6_bitCount_0f7a4 35 = .ok (.iload_n 0, 1) := by decide +kernel
theorem dJ6_bitCount_0f7a4_36 : decode cJ6_bitCount_0f7a4 36 = .ok (.bipush 8, 2) := by decide +kernel
theorem dJ6_bitCount_0f7a4_38 : decode cJ6_bitCount_0f7a4 38 = .ok (.iushr, 1) := by decide +kernel
theorem dJ6_bitCount_0f7a4_39 : decode cJ6_bitCount_0f7a4 39 = .ok (.iadd, 1) := by decide +kernel
theorem dJ6_bitCount_0f7a4_40 : decode cJ6_bitCount_0f7a4 40 = .ok (.istore_n 0, 1) := by decide +kernel
theorem dJ6_bitCount_0f7a4_41 : decode cJ6_bitCount_0f7a4 41 = .ok (.iload_n 0, 1) := by decide +kernel
theorem dJ6_bitCount_0f7a4_42 : decode cJ6_bitCount_0f7a4 42 = .ok (.iload_n 0, 1) := by decide +kernel
theorem dJ6_bitCount_0f7a4_43 : decode cJ6_bitCount_0f7a4 43 = .ok (.bipush 16, 2) := by decide +kernel
theorem dJ6_bitCount_0f7a4_45 : decode cJ6_bitCount_0f7a4 45 = .ok (.iushr, 1) := by decide +kernel
theorem dJ6_bitCount_0f7a4_46 : decode cJ6_bitCount_0f7a4 46 = .ok (.iadd, 1) := by decide +kernel
theorem dJ6_bitCount_0f7a4_47 : decode cJ6_bitCount_0f7a4 47 = .ok (.istore_n 0, 1) := by decide +kernel
theorem dJ6_bitCount_0f7a4_48 : decode cJ6_bitCount_0f7a4 48 = .ok (.iload_n 0, 1) := by decide +kernel
theorem dJ6_bitCount_0f7a4_49 : decode cJ6_bitCount_0f7a4 49 = .ok (.bipush 63, 2) := by decide +kernel
theorem dJ6_bitCount_0f7a4_51 : decode cJ6_bitCount_0f7a4 51 = .ok (.iand, 1) := by decide +kernel
theorem dJ6_bitCount_0f7a4_52 : decode cJ6_bitCount_0f7a4 52 = .ok (.ireturn, 1) := by decide +kernel
theorem dJ9_abs_0f7a4_0 : decode cJ9_abs_0f7a4 0 = .ok (.iload_n 0, 1) := by decide +kernel
theorem dJ9_abs_0f7a4_1 : decode cJ9_abs_0f7a4 1 = .ok (.ifCond .ge 8, 3) := by decide +kernel
theorem dJ9_abs_0f7a4_4 : decode cJ9_abs_0f7a4 4 = .ok (.iload_n 0, 1) := by decide +kernel
theorem dJ9_abs_0f7a4_5 : decode cJ9_abs_0f7a4 5 = .ok (.ineg, 1) := by decide +kernel
theorem dJ9_abs_0f7a4_6 : decode cJ9_abs_0f7a4 6 = .ok (.goto 4, 3) := by decide +kernel
theorem dJ9_abs_0f7a4_9 : decode cJ9_abs_0f7a4 9 = .ok (.iload_n 0, 1) := by decide +kernel
theorem dJ9_abs_0f7a4_10 : decode cJ9_abs_0f7a4 10 = .ok (.ireturn, 1) := by decide +kernel
theorem dJ9_max_7cf53_0 : decode cJ9_max_7cf53 0 = .ok (.iload_n 0, 1) := by decide +kernel
theorem dJ9_max_7cf53_1 : decode cJ9_max_7cf53 1 = .ok (.iload_n 1, 1) := by decide +kernel
theorem dJ9_max_7cf53_2 : decode cJ9_max_7cf53 2 = .ok (.if_icmp .lt 7, 3) := by decide +kernel
theorem dJ9_max_7cf53_5 : decode cJ9_max_7cf53 5 = .ok (.iload_n 0, 1) := by decide +kernel
theorem dJ9_max_7cf53_6 : decode cJ9_max_7cf53 6 = .ok (.goto 4, 3) := by decide +kernel
theorem dJ9_max_7cf53_9 : decode cJ9_max_7cf53 9 = .ok (.iload_n 1, 1) := by decide +kernel
theorem dJ9_max_7cf53_10 : decode cJ9_max_7cf53 10 = .ok (.ireturn, 1) := by decide +kernel
theorem dJ9_min_7cf53_0 : decode cJ9_min_7cf53 0 = .ok (.iload_n 0, 1) := by decide +kernel
theorem dJ9_min_7cf53_1 : decode cJ9_min_7cf53 1 = .ok (.iload_n 1, 1) := by decide +kernel
theorem dJ9_min_7cf53_2 : decode cJ9_min_7cf53 2 = .ok (.if_icmp .gt 7, 3) := by decide +kernel
theorem dJ9_min_7cf53_5 : decode cJ9_min_7cf53 5 = .ok (.iload_n 0, 1) := by decide +kernel
theorem dJ9_min_7cf53_6 : decode cJ9_min_7cf53 6 = .ok (.goto 4, 3) := by decide +kernel
theorem dJ9_min_7cf53_9 : decode cJ9_min_7cf53 9 = .ok (.iload_n 1, 1) := by decide +kernel
theorem dJ9_min_7cf53_10 : decode cJ9_min_7cf53 10 = .ok (.ireturn, 1) := by decide +kernel
theorem dJ0_length_8abf5_0 : decode cJ0_length_8abf5 0 = .ok (.aload_n 0, 1) := by decide +kernel
theorem dJ0_length_8abf5_1 : decode cJ0_length_8abf5 1 = .ok (.getfield 9, 3) := by decide +kernel
theorem dJ0_length_8abf5_4 : decode cJ0_length_8abf5 4 = .ok (.arraylength, 1) := by decide +kernel
theorem dJ0_length_8abf5_5 : decode cJ0_length_8abf5 5 = .ok (.aload_n 0, 1) := by decide +kernel
theorem dJ0_length_8abf5_6 : decode cJ0_length_8abf5 6 = .ok (.invokevirtual 335, 3) := by decide +kernel
theorem dJ0_length_8abf5_9 : decode cJ0_length_8abf5 9 = .ok (.ishr, 1) := by decide +kernel
theorem dJ0_length_8abf5_10 : decode cJ0_length_8abf5 10 = .ok (.ireturn, 1) := by decide +kernel
theorem dJ0_charAt_5068e_0 : decode cJ0_charAt_5068e 0 = .ok (.aload_n 0, 1) := by decide +kernel
theorem dJ0_charAt_5068e_1 : decode cJ0_charAt_5068e 1 = .ok (.invokevirtual 492, 3) := by decide +kernel
theorem dJ0_charAt_5068e_4 : decode cJ0_charAt_5068e 4 = .ok (.ifCond .eq 12, 3) := by decide +kernel
theorem dJ0_charAt_5068e_7 : decode cJ0_charAt_5068e 7 = .ok (.aload_n 0, 1) := by decide +kernel
theorem dJ0_charAt_5068e_8 : decode cJ0_charAt_5068e 8 = .ok (.getfield 9, 3) := by decide +kernel
theorem dJ0_charAt_5068e_11 : decode cJ0_charAt_5068e 11 = .ok (.iload_n 1, 1) := by decide +kernel
theorem dJ0_charAt_5068e_12 : decode cJ0_charAt_5068e 12 = .ok (.invokestatic 495, 3) := by decide +kernel
theorem dJ0_charAt_5068e_15 : decode cJ0_charAt_5068e 15 = .ok (.ireturn, 1) := by decide +kernel
theorem dJ0_charAt_5068e_16 : decode cJ0_charAt_5068e 16 = .ok (.aload_n 0, 1) := by decide +kernel
theorem dJ0_charAt_5068e_17 : decode cJ0_charAt_5068e 17 = .ok (.getfield 9, 3) := by decide +kernel
theorem dJ0_charAt_5068e_20 : decode cJ0_charAt_5068e 20 = .ok (.iload_n 1, 1) := by decide +kernel
theorem dJ0_charAt_5068e_21 : decode cJ0_charAt_5068e 21 = .ok (.invokestatic 498, 3) := by decide +kernel
theorem dJ0_charAt_5068e_24 : decode cJ0_charAt_5068e 24 = .ok (.ireturn, 1) := by decide +kernel
theorem dJ0_coder_7d493_0 : decode cJ0_coder_7d493 0 = .ok (.getstatic 38, 3) := by decide +kernel
theorem dJ0_coder_7d493_3 : decode cJ0_coder_7d493 3 = .ok (.ifCond .eq 10, 3) := by decide +kernel
theorem dJ0_coder_7d493_6 : decode cJ0_coder_7d493 6 = .ok (.aload_n 0, 1) := by decide +kernel
theorem dJ0_coder_7d493_7 : decode cJ0_coder_7d493 7 = .ok (.getfield 15, 3) := by decide +kernel
theorem dJ0_coder_7d493_10 : decode cJ0_coder_7d493 10 = .ok (.goto 4, 3) := by decide +kernel
theorem dJ0_coder_7d493_13 : decode cJ0_coder_7d493 13 = .ok (.iconst 1, 1) := by decide +kernel
theorem dJ0_coder_7d493_14 : decode cJ0_coder_7d493 14 = .ok (.ireturn, 1) := by decide +kernel
theorem dJ0_isLatin1_aae02_0 : decode cJ0_isLatin1_aae02 0 = .ok (.getstatic 38, 3) := by decide +kernel
theorem dJ0_isLatin1_aae02_3 : decode cJ0_isLatin1_aae02 3 = .ok (.ifCond .eq 14, 3) := by decide +kernel
theorem dJ0_isLatin1_aae02_6 : decode cJ0_isLatin1_aae02 6 = .ok (.aload_n 0, 1) := by decide +kernel
theorem dJ0_isLatin1_aae02_7 : decode cJ0_isLatin1_aae02 7 = .ok (.getfield 15, 3) := by decide +kernel
theorem dJ0_isLatin1_aae02_10 : decode cJ0_isLatin1_aae02 10 = .ok (.ifCond .ne 7, 3) := by decide +kernel
theorem dJ0_isLatin1_aae02_13 : decode cJ0_isLatin1_aae02 13 = .ok (.iconst 1, 1) := by decide +kernel
theorem dJ0_isLatin1_aae02_14 : decode cJ0_isLatin1_aae02 14 = .ok (.goto 4, 3) := by decide +kernel
theorem dJ0_isLatin1_aae02_17 : decode cJ0_isLatin1_aae02 17 = .ok (.iconst 0, 1) := by decide +kernel
theorem dJ0_isLatin1_aae02_18 : decode cJ0_isLatin1_aae02 18 = .ok (.ireturn, 1) := by decide +kernel
theorem dJ0_checkIndex_df160_0 : decode cJ0_checkIndex_df160 0 = .ok (.iload_n 0, 1) := by decide +kernel
theorem dJ0_checkIndex_df160_1 : decode cJ0_checkIndex_df160 1 = .ok (.iload_n 1, 1) := by decide +kernel
theorem dJ0_checkIndex_df160_2 : decode cJ0_checkIndex_df160 2 = .ok (.getstatic 1053, 3) := by decide +kernel
theorem dJ0_checkIndex_df160_5 : decode cJ0_checkIndex_df160 5 = .ok (.invokestatic 1059, 3) := by decide +kernel
theorem dJ0_checkIndex_df160_8 : decode cJ0_checkIndex_df160 8 = .ok (.pop, 1) := by decide +kernel
theorem dJ0_checkIndex_df160_9 : decode cJ0_checkIndex_df160 9 = .ok (.return_, 1) := by decide +kernel
theorem dJ1_charAt_3b067_0 : decode cJ1_charAt_3b067 0 = .ok (.iload_n 1, 1) := by decide +kernel
theorem dJ1_charAt_3b067_1 : decode cJ1_charAt_3b067 1 = .ok (.aload_n 0, 1) := by decide +kernel
theorem dJ1_charAt_3b067_2 : decode cJ1_charAt_3b067 2 = .ok (.arraylength, 1) := by decide +kernel
theorem dJ1_charAt_3b067_3 : decode cJ1_charAt_3b067 3 = .ok (.invokestatic 9, 3) := by decide +kernel
theorem dJ1_charAt_3b067_6 : decode cJ1_charAt_3b067 6 = .ok (.aload_n 0, 1) := by decide +kernel
theorem dJ1_charAt_3b067_7 : decode cJ1_charAt_3b067 7 = .ok (.iload_n 1, 1) := by decide +kernel
theorem dJ1_charAt_3b067_8 : decode cJ1_charAt_3b067 8 = .ok (.baload, 1) := by decide +kernel
theorem dJ1_charAt_3b067_9 : decode cJ1_charAt_3b067 9 = .ok (.sipush 255, 3) := by decide +kernel
theorem dJ1_charAt_3b067_12 : decode cJ1_charAt_3b067 12 = .ok (.iand, 1) := by decide +kernel
theorem dJ1_charAt_3b067_13 : decode cJ1_charAt_3b067 13 = .ok (.i2c, 1) := by decide +kernel
theorem dJ1_charAt_3b067_14 : decode cJ1_charAt_3b067 14 = .ok (.ireturn, 1) := by decide +kernel
theorem dJ2_getChar_3b067_0 : decode cJ2_getChar_3b067 0 = .ok (.getstatic 44, 3) := by decide +kernel
theorem dJ2_getChar_3b067_3 : decode cJ2_getChar_3b067 3 = .ok (.ifCond .ne 25, 3) := by decide +kernel
theorem dJ2_getChar_3b067_6 : decode cJ2_getChar_3b067 6 = .ok (.iload_n 1, 1) := by decide +kernel
theorem dJ2_getChar_3b067_7 : decode cJ2_getChar_3b067 7 = .ok (.ifCond .lt 11, 3) := by decide +kernel
theorem dJ2_getChar_3b067_10 : decode cJ2_getChar_3b067 10 = .ok (.iload_n 1, 1) := by decide +kernel
theorem dJ2_getChar_3b067_11 : decode cJ2_getChar_3b067 11 = .ok (.aload_n 0, 1) := by decide +kernel
theorem dJ2_getChar_3b067_12 : decode cJ2_getChar_3b067 12 = .ok (.invokestatic 48, 3) := by decide +kernel
theorem dJ2_getChar_3b067_15 : decode cJ2_getChar_3b067 15 = .ok (.if_icmp .lt 13, 3) := by decide +kernel
theorem dJ2_getChar_3b067_18 : decode cJ2_getChar_3b067 18 = .ok (.new 52, 3) := by decide +kernel
theorem dJ2_getChar_3b067_21 : decode cJ2_getChar_3b067 21 = .ok (.dup, 1) := by decide +kernel
theorem dJ2_getChar_3b067_22 : decode cJ2_getChar_3b067 22 = .ok (.ldc 54, 2) := by decide +kernel
theorem dJ2_getChar_3b067_24 : decode cJ2_getChar_3b067 24 = .ok (.invokespecial 56, 3) := by decide +kernel
theorem dJ2_getChar_3b067_27 : decode cJ2_getChar_3b067 27 = .ok (.athrow, 1) := by decide +kernel
theorem dJ2_getChar_3b067_28 : decode cJ2_getChar_3b067 28 = .ok (.iload_n 1, 1) := by decide +kernel
theorem dJ2_getChar_3b067_29 : decode cJ2_getChar_3b067 29 = .ok (.iconst 1, 1) := by decide +kernel
theorem dJ2_getChar_3b067_30 : decode cJ2_getChar_3b067 30 = .ok (.ishl, 1) := by decide +kernel
theorem dJ2_getChar_3b067_31 : decode cJ2_getChar_3b067 31 = .ok (.istore_n 1, 1) := by decide +kernel
theorem dJ2_getChar_3b067_32 : decode cJ2_getChar_3b067 32 = .ok (.aload_n 0, 1) := by decide +kernel
theorem dJ2_getChar_3b067_33 : decode cJ2_getChar_3b067 33 = .ok (.iload_n 1, 1) := by decide +kernel
theorem dJ2_getChar_3b067_34 : decode cJ2_getChar_3b067 34 = .ok (.iinc 1 1, 3) := by decide +kernel
theorem dJ2_getChar_3b067_37 : decode cJ2_getChar_3b067 37 = .ok (.baload, 1) := by decide +kernel
theorem dJ2_getChar_3b067_38 : decode cJ2_getChar_3b067 38 = .ok (.sipush 255, 3) := by decide +kernel
theorem dJ2_getChar_3b067_41 : decode cJ2_getChar_3b067 41 = .ok (.iand, 1) := by decide +kernel
theorem dJ2_getChar_3b067_42 : decode cJ2_getChar_3b067 42 = .ok (.getstatic 59, 3) := by decide +kernel
theorem dJ2_getChar_3b067_45 : decode cJ2_getChar_3b067 45 = .ok (.ishl, 1) := by decide +kernel
theorem dJ2_getChar_3b067_46 : decode cJ2_getChar_3b067 46 = .ok (.aload_n 0, 1) := by decide +kernel
theorem dJ2_getChar_3b067_47 : decode cJ2_getChar_3b067 47 = .ok (.iload_n 1, 1) := by decide +kernel
theorem dJ2_getChar_3b067_48 : decode cJ2_getChar_3b067 48 = .ok (.baload, 1) := by decide +kernel
theorem dJ2_getChar_3b067_49 : decode cJ2_getChar_3b067 49 = .ok (.sipush 255, 3) := by decide +kernel
theorem dJ2_getChar_3b067_52 : decode cJ2_getChar_3b067 52 = .ok (.iand, 1) := by decide +kernel
theorem dJ2_getChar_3b067_53 : decode cJ2_getChar_3b067 53 = .ok (.getstatic 63, 3) := by decide +kernel
theorem dJ2_getChar_3b067_56 : decode cJ2_getChar_3b067 56 = .ok (.ishl, 1) := by decide +kernel
theorem dJ2_getChar_3b067_57 : decode cJ2_getChar_3b067 57 = .ok (.ior, 1) := by decide +kernel
theorem dJ2_getChar_3b067_58 : decode cJ2_getChar_3b067 58 = .ok (.i2c, 1) := by decide +kernel
theorem dJ2_getChar_3b067_59 : decode cJ2_getChar_3b067 59 = .ok (.ireturn, 1) := by decide +kernel
theorem dJ2_length_9d52b_0 : decode cJ2_length_9d52b 0 = .ok (.aload_n 0, 1) := by decide +kernel
theorem dJ2_length_9d52b_1 : decode cJ2_length_9d52b 1 = .ok (.arraylength, 1) := by decide +kernel
theorem dJ2_length_9d52b_2 : decode cJ2_length_9d52b 2 = .ok (.iconst 1, 1) := by decide +kernel
theorem dJ2_length_9d52b_3 : decode cJ2_length_9d52b 3 = .ok (.ishr, 1) := by decide +kernel
theorem dJ2_length_9d52b_4 : decode cJ2_length_9d52b 4 = .ok (.ireturn, 1) := by decide +kernel
theorem dJ2_charAt_3b067_0 : decode cJ2_charAt_3b067 0 = .ok (.iload_n 1, 1) := by decide +kernel
theorem dJ2_charAt_3b067_1 : decode cJ2_charAt_3b067 1 = .ok (.aload_n 0, 1) := by decide +kernel
theorem dJ2_charAt_3b067_2 : decode cJ2_charAt_3b067 2 = .ok (.invokestatic 67, 3) := by decide +kernel
theorem dJ2_charAt_3b067_5 : decode cJ2_charAt_3b067 5 = .ok (.aload_n 0, 1) := by decide +kernel
theorem dJ2_charAt_3b067_6 : decode cJ2_charAt_3b067 6 = .ok (.iload_n 1, 1) := by decide +kernel
theorem dJ2_charAt_3b067_7 : decode cJ2_charAt_3b067 7 = .ok (.invokestatic 71, 3) := by decide +kernel
theorem dJ2_charAt_3b067_10 : decode cJ2_charAt_3b067 10 = .ok (.ireturn, 1) := by decide +kernel
theorem dJ2_checkIndex_2214a_0 : decode cJ2_checkIndex_2214a 0 = .ok (.iload_n 0, 1) := by decide +kernel
theorem dJ2_checkIndex_2214a_1 : decode cJ2_checkIndex_2214a 1 = .ok (.aload_n 1, 1) := by decide +kernel
theorem dJ2_checkIndex_2214a_2 : decode cJ2_checkIndex_2214a 2 = .ok (.invokestatic 48, 3) := by decide +kernel
theorem dJ2_checkIndex_2214a_5 : decode cJ2_checkIndex_2214a 5 = .ok (.invokestatic 414, 3) := by decide +kernel
theorem dJ2_checkIndex_2214a_8 : decode cJ2_checkIndex_2214a 8 = .ok (.return_, 1) := by decide +kernel
theorem dJ7_fill_53178_0 : decode cJ7_fill_53178 0 = .ok (.iconst 0, 1) := by decide +kernel
theorem dJ7_fill_53178_1 : decode cJ7_fill_53178 1 = .ok (.istore_n 2, 1) := by decide +kernel
theorem dJ7_fill_53178_2 : decode cJ7_fill_53178 2 = .ok (.aload_n 0, 1) := by decide +kernel
theorem dJ7_fill_53178_3 : decode cJ7_fill_53178 3 = .ok (.arraylength, 1) := by decide +kernel
theorem dJ7_fill_53178_4 : decode cJ7_fill_53178 4 = .ok (.istore_n 3, 1) := by decide +kernel
theorem dJ7_fill_53178_5 : decode cJ7_fill_53178 5 = .ok (.iload_n 2, 1) := by decide +kernel
theorem dJ7_fill_53178_6 : decode cJ7_fill_53178 6 = .ok (.iload_n 3, 1) := by decide +kernel
theorem dJ7_fill_53178_7 : decode cJ7_fill_53178 7 = .ok (.if_icmp .ge 13, 3) := by decide +kernel
theorem dJ7_fill_53178_10 : decode cJ7_fill_53178 10 = .ok (.aload_n 0, 1) := by decide +kernel
theorem dJ7_fill_53178_11 : decode cJ7_fill_53178 11 = .ok (.iload_n 2, 1) := by decide +kernel
theorem dJ7_fill_53178_12 : decode cJ7_fill_53178 12 = .ok (.iload_n 1, 1) := by decide +kernel
theorem dJ7_fill_53178_13 : decode cJ7_fill_53178 13 = .ok (.iastore, 1) := by decide +kernel
theorem dJ7_fill_53178_14 : decode cJ7_fill_53178 14 = .ok (.iinc 2 1, 3) := by decide +kernel
theorem dJ7_fill_53178_17 : decode cJ7_fill_53178 17 = .ok (.goto (-12), 3) := by decide +kernel
theorem dJ7_fill_53178_20 : decode cJ7_fill_53178 20 = .ok (.return_, 1) := by decide +kernel
theorem dJ3_checkIndex_8e157_0 : decode cJ3_checkIndex_8e157 0 = .ok (.iload_n 0, 1) := by decide +kernel
theorem dJ3_checkIndex_8e157_1 : decode cJ3_checkIndex_8e157 1 = .ok (.ifCond .lt 8, 3) := by decide +kernel
theorem dJ3_checkIndex_8e157_4 : decode cJ3_checkIndex_8e157 4 = .ok (.iload_n 0, 1) := by decide +kernel
theorem dJ3_checkIndex_8e157_5 : decode cJ3_checkIndex_8e157 5 = .ok (.iload_n 1, 1) := by decide +kernel
theorem dJ3_checkIndex_8e157_6 : decode cJ3_checkIndex_8e157 6 = .ok (.if_icmp .lt 10, 3) := by decide +kernel
theorem dJ3_checkIndex_8e157_9 : decode cJ3_checkIndex_8e157 9 = .ok (.aload_n 2, 1) := by decide +kernel
theorem dJ3_checkIndex_8e157_10 : decode cJ3_checkIndex_8e157 10 = .ok (.iload_n 0, 1) := by decide +kernel
theorem dJ3_checkIndex_8e157_11 : decode cJ3_checkIndex_8e157 11 = .ok (.iload_n 1, 1) := by decide +kernel
theorem dJ3_checkIndex_8e157_12 : decode cJ3_checkIndex_8e157 12 = .ok (.invokestatic 95, 3) := by decide +kernel
theorem dJ3_checkIndex_8e157_15 : decode cJ3_checkIndex_8e157 15 = .ok (.athrow, 1) := by decide +kernel
theorem dJ3_checkIndex_8e157_16 : decode cJ3_checkIndex_8e157 16 = .ok (.iload_n 0, 1) := by decide +kernel
theorem dJ3_checkIndex_8e157_17 : decode cJ3_checkIndex_8e157 17 = .ok (.ireturn, 1) := by decide +kernel
theorem dL_law_0 : decode cL_law 0 = .ok (.new 7, 3) := by decide +kernel
theorem dL_law_3 : decode cL_law 3 = .ok (.dup, 1) := by decide +kernel
theorem dL_law_4 : decode cL_law 4 = .ok (.invokespecial 9, 3) := by decide +kernel
theorem dL_law_7 : decode cL_law 7 = .ok (.astore_n 1, 1) := by decide +kernel
theorem dL_law_8 : decode cL_law 8 = .ok (.new 10, 3) := by decide +kernel
theorem dL_law_11 : decode cL_law 11 = .ok (.dup, 1) := by decide +kernel
theorem dL_law_12 : decode cL_law 12 = .ok (.invokespecial 12, 3) := by decide +kernel
theorem dL_law_15 : decode cL_law 15 = .ok (.astore_n 2, 1) := by decide +kernel
theorem dL_law_16 : decode cL_law 16 = .ok (.iconst 0, 1) := by decide +kernel
theorem dL_law_17 : decode cL_law 17 = .ok (.istore_n 3, 1) := by decide +kernel
theorem dL_law_18 : decode cL_law 18 = .ok (.iload_n 3, 1) := by decide +kernel
theorem dL_law_19 : decode cL_law 19 = .ok (.aload_n 0, 1) := by decide +kernel
theorem dL_law_20 : decode cL_law 20 = .ok (.arraylength, 1) := by decide +kernel
theorem dL_law_21 : decode cL_law 21 = .ok (.bipush 6, 2) := by decide +kernel
theorem dL_law_23 : decode cL_law 23 = .ok (.isub, 1) := by decide +kernel
theorem dL_law_24 : decode cL_law 24 = .ok (.if_icmp .gt 1372, 3) := by decide +kernel
theorem dL_law_27 : decode cL_law 27 = .ok (.aload_n 0, 1) := by decide +kernel
theorem dL_law_28 : decode cL_law 28 = .ok (.iload_n 3, 1) := by decide +kernel
theorem dL_law_29 : decode cL_law 29 = .ok (.iaload, 1) := by decide +kernel
theorem dL_law_30 : decode cL_law 30 = .ok (.bipush 31, 2) := by decide +kernel
theorem dL_law_32 : decode cL_law 32 = .ok (.iand, 1) := by decide +kernel
theorem dL_law_33 : decode cL_law 33 = .ok (.tableswitch 1357 0 29 #[135, 198, 221, 254, 277, 310, 353, 386, 439, 463, 506, 539, 608, 641, 694, 727, 791, 834, 888, 931, 984, 1027, 1060, 1093, 1126, 1175, 1218, 1288, 1311, 1334], 135) := by decide +kernel
theorem dL_law_168 : decode cL_law 168 = .ok (.aload_n 1, 1) := by decide +kernel
theorem dL_law_169 : decode cL_law 169 = .ok (.aload_n 0, 1) := by decide +kernel
theorem dL_law_170 : decode cL_law 170 = .ok (.iload_n 3, 1) := by decide +kernel
theorem dL_law_171 : decode cL_law 171 = .ok (.iconst 1, 1) := by decide +kernel
theorem dL_law_172 : decode cL_law 172 = .ok (.iadd, 1) := by decide +kernel
theorem dL_law_173 : decode cL_law 173 = .ok (.iaload, 1) := by decide +kernel
theorem dL_law_174 : decode cL_law 174 = .ok (.aload_n 0, 1) := by decide +kernel
theorem dL_law_175 : decode cL_law 175 = .ok (.iload_n 3, 1) := by decide +kernel
theorem dL_law_176 : decode cL_law 176 = .ok (.iconst 2, 1) := by decide +kernel
theorem dL_law_177 : decode cL_law 177 = .ok (.iadd, 1) := by decide +kernel
theorem dL_law_178 : decode cL_law 178 = .ok (.iaload, 1) := by decide +kernel
theorem dL_law_179 : decode cL_law 179 = .ok (.aload_n 0, 1) := by decide +kernel
theorem dL_law_180 : decode cL_law 180 = .ok (.iload_n 3, 1) := by decide +kernel
theorem dL_law_181 : decode cL_law 181 = .ok (.iconst 3, 1) := by decide +kernel
theorem dL_law_182 : decode cL_law 182 = .ok (.iadd, 1) := by decide +kernel
theorem dL_law_183 : decode cL_law 183 = .ok (.iaload, 1) := by decide +kernel
theorem dL_law_184 : decode cL_law 184 = .ok (.aload_n 0, 1) := by decide +kernel
theorem dL_law_185 : decode cL_law 185 = .ok (.iload_n 3, 1) := by decide +kernel
theorem dL_law_186 : decode cL_law 186 = .ok (.iconst 4, 1) := by decide +kernel
theorem dL_law_187 : decode cL_law 187 = .ok (.iadd, 1) := by decide +kernel
theorem dL_law_188 : decode cL_law 188 = .ok (.iaload, 1) := by decide +kernel
theorem dL_law_189 : decode cL_law 189 = .ok (.aload_n 0, 1) := by decide +kernel
theorem dL_law_190 : decode cL_law 190 = .ok (.iload_n 3, 1) := by decide +kernel
theorem dL_law_191 : decode cL_law 191 = .ok (.iconst 5, 1) := by decide +kernel
theorem dL_law_192 : decode cL_law 192 = .ok (.iadd, 1) := by decide +kernel
theorem dL_law_193 : decode cL_law 193 = .ok (.iaload, 1) := by decide +kernel
theorem dL_law_194 : decode cL_law 194 = .ok (.invokevirtual 13, 3) := by decide +kernel
theorem dL_law_197 : decode cL_law 197 = .ok (.aload_n 2, 1) := by decide +kernel
theorem dL_law_198 : decode cL_law 198 = .ok (.aload_n 0, 1) := by decide +kernel
theorem dL_law_199 : decode cL_law 199 = .ok (.iload_n 3, 1) := by decide +kernel
theorem dL_law_200 : decode cL_law 200 = .ok (.iconst 1, 1) := by decide +kernel
theorem dL_law_201 : decode cL_law 201 = .ok (.iadd, 1) := by decide +kernel
theorem dL_law_202 : decode cL_law 202 = .ok (.iaload, 1) := by decide +kernel
theorem dL_law_203 : decode cL_law 203 = .ok (.aload_n 0, 1) := by decide +kernel
theorem dL_law_204 : decode cL_law 204 = .ok (.iload_n 3, 1) := by decide +kernel
theorem dL_law_205 : decode cL_law 205 = .ok (.iconst 2, 1) := by decide +kernel
theorem dL_law_206 : decode cL_law 206 = .ok (.iadd, 1) := by decide +kernel
theorem dL_law_207 : decode cL_law 207 = .ok (.iaload, 1) := by decide +kernel
theorem dL_law_208 : decode cL_law 208 = .ok (.aload_n 0, 1) := by decide +kernel
theorem dL_law_209 : decode cL_law 209 = .ok (.iload_n 3, 1) := by decide +kernel
theorem dL_law_210 : decode cL_law 210 = .ok (.iconst 3, 1) := by decide +kernel
theorem dL_law_211 : decode cL_law 211 = .ok (.iadd, 1) := by decide +kernel
theorem dL_law_212 : decode cL_law 212 = .ok (.iaload, 1) := by decide +kernel
theorem dL_law_213 : decode cL_law 213 = .ok (.aload_n 0, 1) := by decide +kernel
theorem dL_law_214 : decode cL_law 214 = .ok (.iload_n 3, 1) := by decide +kernel
theorem dL_law_215 : decode cL_law 215 = .ok (.iconst 4, 1) := by decide +kernel
theorem dL_law_216 : decode cL_law 216 = .ok (.iadd, 1) := by decide +kernel
theorem dL_law_217 : decode cL_law 217 = .ok (.iaload, 1) := by decide +kernel
theorem dL_law_218 : decode cL_law 218 = .ok (.aload_n 0, 1) := by decide +kernel
theorem dL_law_219 : decode cL_law 219 = .ok (.iload_n 3, 1) := by decide +kernel
theorem dL_law_220 : decode cL_law 220 = .ok (.iconst 5, 1) := by decide +kernel
theorem dL_law_221 : decode cL_law 221 = .ok (.iadd, 1) := by decide +kernel
theorem dL_law_222 : decode cL_law 222 = .ok (.iaload, 1) := by decide +kernel
theorem dL_law_223 : decode cL_law 223 = .ok (.invokevirtual 17, 3) := by decide +kernel
theorem dL_law_226 : decode cL_law 226 = .ok (.if_icmp .eq 1164, 3) := by decide +kernel
theorem dL_law_229 : decode cL_law 229 = .ok (.iconst 0, 1) := by decide +kernel
theorem dL_law_230 : decode cL_law 230 = .ok (.ireturn, 1) := by decide +kernel
theorem dL_law_231 : decode cL_law 231 = .ok (.aload_n 1, 1) := by decide +kernel
theorem dL_law_232 : decode cL_law 232 = .ok (.aload_n 0, 1) := by decide +kernel
theorem dL_law_233 : decode cL_law 233 = .ok (.iload_n 3, 1) := by decide +kernel
theorem dL_law_234 : decode cL_law 234 = .ok (.iconst 1, 1) := by decide +kernel
theorem dL_law_235 : decode cL_law 235 = .ok (.iadd, 1) := by decide +kernel
theorem dL_law_236 : decode cL_law 236 = .ok (.iaload, 1) := by decide +kernel
theorem dL_law_237 : decode cL_law 237 = .ok (.invokevirtual 18, 3) := by decide +kernel
theorem dL_law_240 : decode cL_law 240 = .ok (.aload_n 2, 1) := by decide +kernel
theorem dL_law_241 : decode cL_law 241 = .ok (.aload_n 0, 1) := by decide +kernel
theorem dL_law_242 : decode cL_law 242 = .ok (.iload_n 3, 1) := by decide +kernel
theorem dL_law_243 : decode cL_law 243 = .ok (.iconst 1, 1) := by decide +kernel
theorem dL_law_244 : decode cL_law 244 = .ok (.iadd, 1) := by decide +kernel
theorem dL_law_245 : decode cL_law 245 = .ok (.iaload, 1) := by decide +kernel
theorem dL_law_246 : decode cL_law 246 = .ok (.invokevirtual 22, 3) := by decide +kernel
theorem dL_law_249 : decode cL_law 249 = .ok (.if_icmp .eq 1141, 3) := by decide +kernel
theorem dL_law_252 : decode cL_law 252 = .ok (.iconst 0, 1) := by decide +kernel
theorem dL_law_253 : decode cL_law 253 = .ok (.ireturn, 1) := by decide +kernel
theorem dL_law_254 : decode cL_law 254 = .ok (.aload_n 1, 1) := by decide +kernel
theorem dL_law_255 : decode cL_law 255 = .ok (.aload_n 0, 1) := by decide +kernel
theorem dL_law_256 : decode cL_law 256 = .ok (.iload_n 3, 1) := by decide +kernel
theorem dL_law_257 : decode cL_law 257 = .ok (.iconst 1, 1) := by decide +kernel
theorem dL_law_258 : decode cL_law 258 = .ok (.iadd, 1) := by decide +kernel
theorem dL_law_259 : decode cL_law 259 = .ok (.iaload, 1) := by decide +kernel
theorem dL_law_260 : decode cL_law 260 = .ok (.aload_n 0, 1) := by decide +kernel
theorem dL_law_261 : decode cL_law 261 = .ok (.iload_n 3, 1) := by decide +kernel
theorem dL_law_262 : decode cL_law 262 = .ok (.iconst 2, 1) := by decide +kernel
theorem dL_law_263 : decode cL_law 263 = .ok (.iadd, 1) := by decide +kernel
theorem dL_law_264 : decode cL_law 264 = .ok (.iaload, 1) := by decide +kernel
theorem dL_law_265 : decode cL_law 265 = .ok (.invokevirtual 23, 3) := by decide +kernel
theorem dL_law_268 : decode cL_law 268 = .ok (.aload_n 2, 1) := by decide +kernel
theorem dL_law_269 : decode cL_law 269 = .ok (.aload_n 0, 1) := by decide +kernel
theorem dL_law_270 : decode cL_law 270 = .ok (.iload_n 3, 1) := by decide +kernel
theorem dL_law_271 : decode cL_law 271 = .ok (.iconst 1, 1) := by decide +kernel
theorem dL_law_272 : decode cL_law 272 = .ok (.iadd, 1) := by decide +kernel
theorem dL_law_273 : decode cL_law 273 = .ok (.iaload, 1) := by decide +kernel
theorem dL_law_274 : decode cL_law 274 = .ok (.aload_n 0, 1) := by decide +kernel
theorem dL_law_275 : decode cL_law 275 = .ok (.iload_n 3, 1) := by decide +kernel
theorem dL_law_276 : decode cL_law 276 = .ok (.iconst 2, 1) := by decide +kernel
theorem dL_law_277 : decode cL_law 277 = .ok (.iadd, 1) := by decide +kernel
theorem dL_law_278 : decode cL_law 278 = .ok (.iaload, 1) := by decide +kernel
theorem dL_law_279 : decode cL_law 279 = .ok (.invokevirtual 27, 3) := by decide +kernel
theorem dL_law_282 : decode cL_law 282 = .ok (.if_icmp .eq 1108, 3) := by decide +kernel
theorem dL_law_285 : decode cL_law 285 = .ok (.iconst 0, 1) := by decide +kernel
theorem dL_law_286 : decode cL_law 286 = .ok (.ireturn, 1) := by decide +kernel
theorem dL_law_287 : decode cL_law 287 = .ok (.aload_n 1, 1) := by decide +kernel
theorem dL_law_288 : decode cL_law 288 = .ok (.aload_n 0, 1) := by decide +kernel
theorem dL_law_289 : decode cL_law 289 = .ok (.iload_n 3, 1) := by decide +kernel
theorem dL_law_290 : decode cL_law 290 = .ok (.iconst 1, 1) := by decide +kernel
theorem dL_law_291 : decode cL_law 291 = .ok (.iadd, 1) := by decide +kernel
theorem dL_law_292 : decode cL_law 292 = .ok (.iaload, 1) := by decide +kernel
theorem dL_law_293 : decode cL_law 293 = .ok (.invokevirtual 28, 3) := by decide +kernel
theorem dL_law_296 : decode cL_law 296 = .ok (.aload_n 2, 1) := by decide +kernel
theorem dL_law_297 : decode cL_law 297 = .ok (.aload_n 0, 1) := by decide +kernel
theorem dL_law_298 : decode cL_law 298 = .ok (.iload_n 3, 1) := by decide +kernel
theorem dL_law_299 : decode cL_law 299 = .ok (.iconst 1, 1) := by decide +kernel
theorem dL_law_300 : decode cL_law 300 = .ok (.iadd, 1) := by decide +kernel
theorem dL_law_301 : decode cL_law 301 = .ok (.iaload, 1) := by decide +kernel
theorem dL_law_302 : decode cL_law 302 = .ok (.invokevirtual 31, 3) := by decide +kernel
theorem dL_law_305 : decode cL_law 305 = .ok (.if_icmp .eq 1085, 3) := by decide +kernel
theorem dL_law_308 : decode cL_law 308 = .ok (.iconst 0, 1) := by decide +kernel
theorem dL_law_309 : decode cL_law 309 = .ok (.ireturn, 1) := by decide +kernel
theorem dL_law_310 : decode cL_law 310 = .ok (.aload_n 1, 1) := by decide +kernel
theorem dL_law_311 : decode cL_law 311 = .ok (.aload_n 0, 1) := by decide +kernel
theorem dL_law_312 : decode cL_law 312 = .ok (.iload_n 3, 1) := by decide +kernel
theorem dL_law_313 : decode cL_law 313 = .ok (.iconst 1, 1) := by decide +kernel
theorem dL_law_314 : decode cL_law 314 = .ok (.iadd, 1) := by decide +kernel
theorem dL_law_315 : decode cL_law 315 = .ok (.iaload, 1) := by decide +kernel
theorem dL_law_316 : decode cL_law 316 = .ok (.aload_n 0, 1) := by decide +kernel
theorem dL_law_317 : decode cL_law 317 = .ok (.iload_n 3, 1) := by decide +kernel
theorem dL_law_318 : decode cL_law 318 = .ok (.iconst 2, 1) := by decide +kernel
theorem dL_law_319 : decode cL_law 319 = .ok (.iadd, 1) := by decide +kernel
theorem dL_law_320 : decode cL_law 320 = .ok (.iaload, 1) := by decide +kernel
theorem dL_law_321 : decode cL_law 321 = .ok (.invokevirtual 32, 3) := by decide +kernel
theorem dL_law_324 : decode cL_law 324 = .ok (.aload_n 2, 1) := by decide +kernel
theorem dL_law_325 : decode cL_law 325 = .ok (.aload_n 0, 1) := by decide +kernel
theorem dL_law_326 : decode cL_law 326 = .ok (.iload_n 3, 1) := by decide +kernel
theorem dL_law_327 : decode cL_law 327 = .ok (.iconst 1, 1) := by decide +kernel
theorem dL_law_328 : decode cL_law 328 = .ok (.iadd, 1) := by decide +kernel
theorem dL_law_329 : decode cL_law 329 = .ok (.iaload, 1) := by decide +kernel
theorem dL_law_330 : decode cL_law 330 = .ok (.aload_n 0, 1) := by decide +kernel
theorem dL_law_331 : decode cL_law 331 = .ok (.iload_n 3, 1) := by decide +kernel
theorem dL_law_332 : decode cL_law 332 = .ok (.iconst 2, 1) := by decide +kernel
theorem dL_law_333 : decode cL_law 333 = .ok (.iadd, 1) := by decide +kernel
theorem dL_law_334 : decode cL_law 334 = .ok (.iaload, 1) := by decide +kernel
theorem dL_law_335 : decode cL_law 335 = .ok (.invokevirtual 35, 3) := by decide +kernel
theorem dL_law_338 : decode cL_law 338 = .ok (.if_icmp .eq 1052, 3) := by decide +kernel
theorem dL_law_341 : decode cL_law 341 = .ok (.iconst 0, 1) := by decide +kernel
theorem dL_law_342 : decode cL_law 342 = .ok (.ireturn, 1) := by decide +kernel
theorem dL_law_343 : decode cL_law 343 = .ok (.aload_n 1, 1) := by decide +kernel
theorem dL_law_344 : decode cL_law 344 = .ok (.aload_n 0, 1) := by decide +kernel
theorem dL_law_345 : decode cL_law 345 = .ok (.iload_n 3, 1) := by decide +kernel
theorem dL_law_346 : decode cL_law 346 = .ok (.iconst 1, 1) := by decide +kernel
theorem dL_law_347 : decode cL_law 347 = .ok (.iadd, 1) := by decide +kernel
theorem dL_law_348 : decode cL_law 348 = .ok (.iaload, 1) := by decide +kernel
theorem dL_law_349 : decode cL_law 349 = .ok (.aload_n 0, 1) := by decide +kernel
theorem dL_law_350 : decode cL_law 350 = .ok (.iload_n 3, 1) := by decide +kernel
theorem dL_law_351 : decode cL_law 351 = .ok (.iconst 2, 1) := by decide +kernel
theorem dL_law_352 : decode cL_law 352 = .ok (.iadd, 1) := by decide +kernel
theorem dL_law_353 : decode cL_law 353 = .ok (.iaload, 1) := by decide +kernel
theorem dL_law_354 : decode cL_law 354 = .ok (.aload_n 0, 1) := by decide +kernel
theorem dL_law_355 : decode cL_law 355 = .ok (.iload_n 3, 1) := by decide +kernel
theorem dL_law_356 : decode cL_law 356 = .ok (.iconst 3, 1) := by decide +kernel
theorem dL_law_357 : decode cL_law 357 = .ok (.iadd, 1) := by decide +kernel
theorem dL_law_358 : decode cL_law 358 = .ok (.iaload, 1) := by decide +kernel
theorem dL_law_359 : decode cL_law 359 = .ok (.invokevirtual 36, 3) := by decide +kernel
theorem dL_law_362 : decode cL_law 362 = .ok (.aload_n 2, 1) := by decide +kernel
theorem dL_law_363 : decode cL_law 363 = .ok (.aload_n 0, 1) := by decide +kernel
theorem dL_law_364 : decode cL_law 364 = .ok (.iload_n 3, 1) := by decide +kernel
theorem dL_law_365 : decode cL_law 365 = .ok (.iconst 1, 1) := by decide +kernel
theorem dL_law_366 : decode cL_law 366 = .ok (.iadd, 1) := by decide +kernel
theorem dL_law_367 : decode cL_law 367 = .ok (.iaload, 1) := by decide +kernel
theorem dL_law_368 : decode cL_law 368 = .ok (.aload_n 0, 1) := by decide +kernel
theorem dL_law_369 : decode cL_law 369 = .ok (.iload_n 3, 1) := by decide +kernel
theorem dL_law_370 : decode cL_law 370 = .ok (.iconst 2, 1) := by decide +kernel
theorem dL_law_371 : decode cL_law 371 = .ok (.iadd, 1) := by decide +kernel
theorem dL_law_372 : decode cL_law 372 = .ok (.iaload, 1) := by decide +kernel
theorem dL_law_373 : decode cL_law 373 = .ok (.aload_n 0, 1) := by decide +kernel
theorem dL_law_374 : decode cL_law 374 = .ok (.iload_n 3, 1) := by decide +kernel
theorem dL_law_375 : decode cL_law 375 = .ok (.iconst 3, 1) := by decide +kernel
theorem dL_law_376 : decode cL_law 376 = .ok (.iadd, 1) := by decide +kernel
theorem dL_law_377 : decode cL_law 377 = .ok (.iaload, 1) := by decide +kernel
theorem dL_law_378 : decode cL_law 378 = .ok (.invokevirtual 40, 3) := by decide +kernel
theorem dL_law_381 : decode cL_law 381 = .ok (.if_icmp .eq 1009, 3) := by decide +kernel
theorem dL_law_384 : decode cL_law 384 = .ok (.iconst 0, 1) := by decide +kernel
theorem dL_law_385 : decode cL_law 385 = .ok (.ireturn, 1) := by decide +kernel
theorem dL_law_386 : decode cL_law 386 = .ok (.aload_n 1, 1) := by decide +kernel
theorem dL_law_387 : decode cL_law 387 = .ok (.aload_n 0, 1) := by decide +kernel
theorem dL_law_388 : decode cL_law 388 = .ok (.iload_n 3, 1) := by decide +kernel
theorem dL_law_389 : decode cL_law 389 = .ok (.iconst 1, 1) := by decide +kernel
theorem dL_law_390 : decode cL_law 390 = .ok (.iadd, 1) := by decide +kernel
theorem dL_law_391 : decode cL_law 391 = .ok (.iaload, 1) := by decide +kernel
theorem dL_law_392 : decode cL_law 392 = .ok (.aload_n 0, 1) := by decide +kernel
theorem dL_law_393 : decode cL_law 393 = .ok (.iload_n 3, 1) := by decide +kernel
theorem dL_law_394 : decode cL_law 394 = .ok (.iconst 2, 1) := by decide +kernel
theorem dL_law_395 : decode cL_law 395 = .ok (.iadd, 1) := by decide +kernel
theorem dL_law_396 : decode cL_law 396 = .ok (.iaload, 1) := by decide +kernel
theorem dL_law_397 : decode cL_law 397 = .ok (.invokevirtual 41, 3) := by decide +kernel
theorem dL_law_400 : decode cL_law 400 = .ok (.aload_n 2, 1) := by decide +kernel
theorem dL_law_401 : decode cL_law 401 = .ok (.aload_n 0, 1) := by decide +kernel
theorem dL_law_402 : decode cL_law 402 = .ok (.iload_n 3, 1) := by decide +kernel
theorem dL_law_403 : decode cL_law 403 = .ok (.iconst 1, 1) := by decide +kernel
theorem dL_law_404 : decode cL_law 404 = .ok (.iadd, 1) := by decide +kernel
theorem dL_law_405 : decode cL_law 405 = .ok (.iaload, 1) := by decide +kernel
theorem dL_law_406 : decode cL_law 406 = .ok (.aload_n 0, 1) := by decide +kernel
theorem dL_law_407 : decode cL_law 407 = .ok (.iload_n 3, 1) := by decide +kernel
theorem dL_law_408 : decode cL_law 408 = .ok (.iconst 2, 1) := by decide +kernel
theorem dL_law_409 : decode cL_law 409 = .ok (.iadd, 1) := by decide +kernel
theorem dL_law_410 : decode cL_law 410 = .ok (.iaload, 1) := by decide +kernel
theorem dL_law_411 : decode cL_law 411 = .ok (.invokevirtual 44, 3) := by decide +kernel
theorem dL_law_414 : decode cL_law 414 = .ok (.if_icmp .eq 976, 3) := by decide +kernel
theorem dL_law_417 : decode cL_law 417 = .ok (.iconst 0, 1) := by decide +kernel
theorem dL_law_418 : decode cL_law 418 = .ok (.ireturn, 1) := by decide +kernel
theorem dL_law_419 : decode cL_law 419 = .ok (.aload_n 1, 1) := by decide +kernel
theorem dL_law_420 : decode cL_law 420 = .ok (.aload_n 0, 1) := by decide +kernel
theorem dL_law_421 : decode cL_law 421 = .ok (.iload_n 3, 1) := by decide +kernel
theorem dL_law_422 : decode cL_law 422 = .ok (.iconst 1, 1) := by decide +kernel
theorem dL_law_423 : decode cL_law 423 = .ok (.iadd, 1) := by decide +kernel
theorem dL_law_424 : decode cL_law 424 = .ok (.iaload, 1) := by decide +kernel
theorem dL_law_425 : decode cL_law 425 = .ok (.aload_n 0, 1) := by decide +kernel
theorem dL_law_426 : decode cL_law 426 = .ok (.iload_n 3, 1) := by decide +kernel
theorem dL_law_427 : decode cL_law 427 = .ok (.iconst 2, 1) := by decide +kernel
theorem dL_law_428 : decode cL_law 428 = .ok (.iadd, 1) := by decide +kernel
theorem dL_law_429 : decode cL_law 429 = .ok (.iaload, 1) := by decide +kernel
theorem dL_law_430 : decode cL_law 430 = .ok (.aload_n 0, 1) := by decide +kernel
theorem dL_law_431 : decode cL_law 431 = .ok (.iload_n 3, 1) := by decide +kernel
theorem dL_law_432 : decode cL_law 432 = .ok (.iconst 3, 1) := by decide +kernel
theorem dL_law_433 : decode cL_law 433 = .ok (.iadd, 1) := by decide +kernel
theorem dL_law_434 : decode cL_law 434 = .ok (.iaload, 1) := by decide +kernel
theorem dL_law_435 : decode cL_law 435 = .ok (.aload_n 0, 1) := by decide +kernel
theorem dL_law_436 : decode cL_law 436 = .ok (.iload_n 3, 1) := by decide +kernel
theorem dL_law_437 : decode cL_law 437 = .ok (.iconst 4, 1) := by decide +kernel
theorem dL_law_438 : decode cL_law 438 = .ok (.iadd, 1) := by decide +kernel
theorem dL_law_439 : decode cL_law 439 = .ok (.iaload, 1) := by decide +kernel
theorem dL_law_440 : decode cL_law 440 = .ok (.invokevirtual 45, 3) := by decide +kernel
theorem dL_law_443 : decode cL_law 443 = .ok (.aload_n 2, 1) := by decide +kernel
theorem dL_law_444 : decode cL_law 444 = .ok (.aload_n 0, 1) := by decide +kernel
theorem dL_law_445 : decode cL_law 445 = .ok (.iload_n 3, 1) := by decide +kernel
theorem dL_law_446 : decode cL_law 446 = .ok (.iconst 1, 1) := by decide +kernel
theorem dL_law_447 : decode cL_law 447 = .ok (.iadd, 1) := by decide +kernel
theorem dL_law_448 : decode cL_law 448 = .ok (.iaload, 1) := by decide +kernel
theorem dL_law_449 : decode cL_law 449 = .ok (.aload_n 0, 1) := by decide +kernel
theorem dL_law_450 : decode cL_law 450 = .ok (.iload_n 3, 1) := by decide +kernel
theorem dL_law_451 : decode cL_law 451 = .ok (.iconst 2, 1) := by decide +kernel
theorem dL_law_452 : decode cL_law 452 = .ok (.iadd, 1) := by decide +kernel
theorem dL_law_453 : decode cL_law 453 = .ok (.iaload, 1) := by decide +kernel
theorem dL_law_454 : decode cL_law 454 = .ok (.aload_n 0, 1) := by decide +kernel
theorem dL_law_455 : decode cL_law 455 = .ok (.iload_n 3, 1) := by decide +kernel
theorem dL_law_456 : decode cL_law 456 = .ok (.iconst 3, 1) := by decide +kernel
theorem dL_law_457 : decode cL_law 457 = .ok (.iadd, 1) := by decide +kernel
theorem dL_law_458 : decode cL_law 458 = .ok (.iaload, 1) := by decide +kernel
theorem dL_law_459 : decode cL_law 459 = .ok (.aload_n 0, 1) := by decide +kernel
theorem dL_law_460 : decode cL_law 460 = .ok (.iload_n 3, 1) := by decide +kernel
theorem dL_law_461 : decode cL_law 461 = .ok (.iconst 4, 1) := by decide +kernel
theorem dL_law_462 : decode cL_law 462 = .ok (.iadd, 1) := by decide +kernel
theorem dL_law_463 : decode cL_law 463 = .ok (.iaload, 1) := by decide +kernel
theorem dL_law_464 : decode cL_law 464 = .ok (.invokevirtual 49, 3) := by decide +kernel
theorem dL_law_467 : decode cL_law 467 = .ok (.if_icmp .eq 923, 3) := by decide +kernel
theorem dL_law_470 : decode cL_law 470 = .ok (.iconst 0, 1) := by decide +kernel
theorem dL_law_471 : decode cL_law 471 = .ok (.ireturn, 1) := by decide +kernel
theorem dL_law_472 : decode cL_law 472 = .ok (.aload_n 1, 1) := by decide +kernel
theorem dL_law_473 : decode cL_law 473 = .ok (.aload_n 0, 1) := by decide +kernel
theorem dL_law_474 : decode cL_law 474 = .ok (.iload_n 3, 1) := by decide +kernel
theorem dL_law_475 : decode cL_law 475 = .ok (.iconst 1, 1) := by decide +kernel
theorem dL_law_476 : decode cL_law 476 = .ok (.iadd, 1) := by decide +kernel
theorem dL_law_477 : decode cL_law 477 = .ok (.iaload, 1) := by decide +kernel
theorem dL_law_478 : decode cL_law 478 = .ok (.invokevirtual 50, 3) := by decide +kernel
theorem dL_law_481 : decode cL_law 481 = .ok (.aload_n 2, 1) := by decide +kernel
theorem dL_law_482 : decode cL_law 482 = .ok (.aload_n 0, 1) := by decide +kernel
theorem dL_law_483 : decode cL_law 483 = .ok (.iload_n 3, 1) := by decide +kernel
theorem dL_law_484 : decode cL_law 484 = .ok (.iconst 1, 1) := by decide +kernel
theorem dL_law_485 : decode cL_law 485 = .ok (.iadd, 1) := by decide +kernel
theorem dL_law_486 : decode cL_law 486 = .ok (.iaload, 1) := by decide +kernel
theorem dL_law_487 : decode cL_law 487 = .ok (.invokevirtual 54, 3) := by decide +kernel
theorem dL_law_490 : decode cL_law 490 = .ok (.lcmp, 1) := by decide +kernel
theorem dL_law_491 : decode cL_law 491 = .ok (.ifCond .eq 899, 3) := by decide +kernel
theorem dL_law_494 : decode cL_law 494 = .ok (.iconst 0, 1) := by decide +kernel
theorem dL_law_495 : decode cL_law 495 = .ok (.ireturn, 1) := by decide +kernel
theorem dL_law_496 : decode cL_law 496 = .ok (.aload_n 1, 1) := by decide +kernel
theorem dL_law_497 : decode cL_law 497 = .ok (.aload_n 0, 1) := by decide +kernel
theorem dL_law_498 : decode cL_law 498 = .ok (.iload_n 3, 1) := by decide +kernel
theorem dL_law_499 : decode cL_law 499 = .ok (.iconst 1, 1) := by decide +kernel
theorem dL_law_500 : decode cL_law 500 = .ok (.iadd, 1) := by decide +kernel
theorem dL_law_501 : decode cL_law 501 = .ok (.iaload, 1) := by decide +kernel
theorem dL_law_502 : decode cL_law 502 = .ok (.aload_n 0, 1) := by decide +kernel
theorem dL_law_503 : decode cL_law 503 = .ok (.iload_n 3, 1) := by decide +kernel
theorem dL_law_504 : decode cL_law 504 = .ok (.iconst 2, 1) := by decide +kernel
theorem dL_law_505 : decode cL_law 505 = .ok (.iadd, 1) := by decide +kernel
theorem dL_law_506 : decode cL_law 506 = .ok (.iaload, 1) := by decide +kernel
theorem dL_law_507 : decode cL_law 507 = .ok (.aload_n 0, 1) := by decide +kernel
theorem dL_law_508 : decode cL_law 508 = .ok (.iload_n 3, 1) := by decide +kernel
theorem dL_law_509 : decode cL_law 509 = .ok (.iconst 3, 1) := by decide +kernel
theorem dL_law_510 : decode cL_law 510 = .ok (.iadd, 1) := by decide +kernel
theorem dL_law_511 : decode cL_law 511 = .ok (.iaload, 1) := by decide +kernel
theorem dL_law_512 : decode cL_law 512 = .ok (.invokevirtual 55, 3) := by decide +kernel
theorem dL_law_515 : decode cL_law 515 = .ok (.aload_n 2, 1) := by decide +kernel
theorem dL_law_516 : decode cL_law 516 = .ok (.aload_n 0, 1) := by decide +kernel
theorem dL_law_517 : decode cL_law 517 = .ok (.iload_n 3, 1) := by decide +kernel
theorem dL_law_518 : decode cL_law 518 = .ok (.iconst 1, 1) := by decide +kernel
theorem dL_law_519 : decode cL_law 519 = .ok (.iadd, 1) := by decide +kernel
theorem dL_law_520 : decode cL_law 520 = .ok (.iaload, 1) := by decide +kernel
theorem dL_law_521 : decode cL_law 521 = .ok (.aload_n 0, 1) := by decide +kernel
theorem dL_law_522 : decode cL_law 522 = .ok (.iload_n 3, 1) := by decide +kernel
theorem dL_law_523 : decode cL_law 523 = .ok (.iconst 2, 1) := by decide +kernel
theorem dL_law_524 : decode cL_law 524 = .ok (.iadd, 1) := by decide +kernel
theorem dL_law_525 : decode cL_law 525 = .ok (.iaload, 1) := by decide +kernel
theorem dL_law_526 : decode cL_law 526 = .ok (.aload_n 0, 1) := by decide +kernel
theorem dL_law_527 : decode cL_law 527 = .ok (.iload_n 3, 1) := by decide +kernel
theorem dL_law_528 : decode cL_law 528 = .ok (.iconst 3, 1) := by decide +kernel
theorem dL_law_529 : decode cL_law 529 = .ok (.iadd, 1) := by decide +kernel
theorem dL_law_530 : decode cL_law 530 = .ok (.iaload, 1) := by decide +kernel
theorem dL_law_531 : decode cL_law 531 = .ok (.invokevirtual 58, 3) := by decide +kernel
theorem dL_law_534 : decode cL_law 534 = .ok (.if_icmp .eq 856, 3) := by decide +kernel
theorem dL_law_537 : decode cL_law 537 = .ok (.iconst 0, 1) := by decide +kernel
theorem dL_law_538 : decode cL_law 538 = .ok (.ireturn, 1) := by decide +kernel
theorem dL_law_539 : decode cL_law 539 = .ok (.aload_n 1, 1) := by decide +kernel
theorem dL_law_540 : decode cL_law 540 = .ok (.aload_n 0, 1) := by decide +kernel
theorem dL_law_541 : decode cL_law 541 = .ok (.iload_n 3, 1) := by decide +kernel
theorem dL_law_542 : decode cL_law 542 = .ok (.iconst 1, 1) := by decide +kernel
theorem dL_law_543 : decode cL_law 543 = .ok (.iadd, 1) := by decide +kernel
theorem dL_law_544 : decode cL_law 544 = .ok (.iaload, 1) := by decide +kernel
theorem dL_law_545 : decode cL_law 545 = .ok (.aload_n 0, 1) := by decide +kernel
theorem dL_law_546 : decode cL_law 546 = .ok (.iload_n 3, 1) := by decide +kernel
theorem dL_law_547 : decode cL_law 547 = .ok (.iconst 2, 1) := by decide +kernel
theorem dL_law_548 : decode cL_law 548 = .ok (.iadd, 1) := by decide +kernel
theorem dL_law_549 : decode cL_law 549 = .ok (.iaload, 1) := by decide +kernel
theorem dL_law_550 : decode cL_law 550 = .ok (.invokevirtual 59, 3) := by decide +kernel
theorem dL_law_553 : decode cL_law 553 = .ok (.aload_n 2, 1) := by decide +kernel
theorem dL_law_554 : decode cL_law 554 = .ok (.aload_n 0, 1) := by decide +kernel
theorem dL_law_555 : decode cL_law 555 = .ok (.iload_n 3, 1) := by decide +kernel
theorem dL_law_556 : decode cL_law 556 = .ok (.iconst 1, 1) := by decide +kernel
theorem dL_law_557 : decode cL_law 557 = .ok (.iadd, 1) := by decide +kernel
theorem dL_law_558 : decode cL_law 558 = .ok (.iaload, 1) := by decide +kernel
theorem dL_law_559 : decode cL_law 559 = .ok (.aload_n 0, 1) := by decide +kernel
theorem dL_law_560 : decode cL_law 560 = .ok (.iload_n 3, 1) := by decide +kernel
theorem dL_law_561 : decode cL_law 561 = .ok (.iconst 2, 1) := by decide +kernel
theorem dL_law_562 : decode cL_law 562 = .ok (.iadd, 1) := by decide +kernel
theorem dL_law_563 : decode cL_law 563 = .ok (.iaload, 1) := by decide +kernel
theorem dL_law_564 : decode cL_law 564 = .ok (.invokevirtual 62, 3) := by decide +kernel
theorem dL_law_567 : decode cL_law 567 = .ok (.if_icmp .eq 823, 3) := by decide +kernel
theorem dL_law_570 : decode cL_law 570 = .ok (.iconst 0, 1) := by decide +kernel
theorem dL_law_571 : decode cL_law 571 = .ok (.ireturn, 1) := by decide +kernel
theorem dL_law_572 : decode cL_law 572 = .ok (.aload_n 1, 1) := by decide +kernel
theorem dL_law_573 : decode cL_law 573 = .ok (.aload_n 0, 1) := by decide +kernel
theorem dL_law_574 : decode cL_law 574 = .ok (.iload_n 3, 1) := by decide +kernel
theorem dL_law_575 : decode cL_law 575 = .ok (.iconst 1, 1) := by decide +kernel
theorem dL_law_576 : decode cL_law 576 = .ok (.iadd, 1) := by decide +kernel
theorem dL_law_577 : decode cL_law 577 = .ok (.iaload, 1) := by decide +kernel
theorem dL_law_578 : decode cL_law 578 = .ok (.aload_n 0, 1) := by decide +kernel
theorem dL_law_579 : decode cL_law 579 = .ok (.iload_n 3, 1) := by decide +kernel
theorem dL_law_580 : decode cL_law 580 = .ok (.iconst 2, 1) := by decide +kernel
theorem dL_law_581 : decode cL_law 581 = .ok (.iadd, 1) := by decide +kernel
theorem dL_law_582 : decode cL_law 582 = .ok (.iaload, 1) := by decide +kernel
theorem dL_law_583 : decode cL_law 583 = .ok (.aload_n 0, 1) := by decide +kernel
theorem dL_law_584 : decode cL_law 584 = .ok (.iload_n 3, 1) := by decide +kernel
theorem dL_law_585 : decode cL_law 585 = .ok (.iconst 3, 1) := by decide +kernel
theorem dL_law_586 : decode cL_law 586 = .ok (.iadd, 1) := by decide +kernel
theorem dL_law_587 : decode cL_law 587 = .ok (.iaload, 1) := by decide +kernel
theorem dL_law_588 : decode cL_law 588 = .ok (.aload_n 0, 1) := by decide +kernel
theorem dL_law_589 : decode cL_law 589 = .ok (.iload_n 3, 1) := by decide +kernel
theorem dL_law_590 : decode cL_law 590 = .ok (.iconst 4, 1) := by decide +kernel
theorem dL_law_591 : decode cL_law 591 = .ok (.iadd, 1) := by decide +kernel
theorem dL_law_592 : decode cL_law 592 = .ok (.iaload, 1) := by decide +kernel
theorem dL_law_593 : decode cL_law 593 = .ok (.ifCond .eq 7, 3) := by decide +kernel
theorem dL_law_596 : decode cL_law 596 = .ok (.iconst 1, 1) := by decide +kernel
theorem dL_law_597 : decode cL_law 597 = .ok (.goto 4, 3) := by decide +kernel
theorem dL_law_600 : decode cL_law 600 = .ok (.iconst 0, 1) := by decide +kernel
theorem dL_law_601 : decode cL_law 601 = .ok (.invokevirtual 63, 3) := by decide +kernel
theorem dL_law_604 : decode cL_law 604 = .ok (.aload_n 2, 1) := by decide +kernel
theorem dL_law_605 : decode cL_law 605 = .ok (.aload_n 0, 1) := by decide +kernel
theorem dL_law_606 : decode cL_law 606 = .ok (.iload_n 3, 1) := by decide +kernel
theorem dL_law_607 : decode cL_law 607 = .ok (.iconst 1, 1) := by decide +kernel
theorem dL_law_608 : decode cL_law 608 = .ok (.iadd, 1) := by decide +kernel
theorem dL_law_609 : decode cL_law 609 = .ok (.iaload, 1) := by decide +kernel
theorem dL_law_610 : decode cL_law 610 = .ok (.aload_n 0, 1) := by decide +kernel
theorem dL_law_611 : decode cL_law 611 = .ok (.iload_n 3, 1) := by decide +kernel
theorem dL_law_612 : decode cL_law 612 = .ok (.iconst 2, 1) := by decide +kernel
theorem dL_law_613 : decode cL_law 613 = .ok (.iadd, 1) := by decide +kernel
theorem dL_law_614 : decode cL_law 614 = .ok (.iaload, 1) := by decide +kernel
theorem dL_law_615 : decode cL_law 615 = .ok (.aload_n 0, 1) := by decide +kernel
theorem dL_law_616 : decode cL_law 616 = .ok (.iload_n 3, 1) := by decide +kernel
theorem dL_law_617 : decode cL_law 617 = .ok (.iconst 3, 1) := by decide +kernel
theorem dL_law_618 : decode cL_law 618 = .ok (.iadd, 1) := by decide +kernel
theorem dL_law_619 : decode cL_law 619 = .ok (.iaload, 1) := by decide +kernel
theorem dL_law_620 : decode cL_law 620 = .ok (.aload_n 0, 1) := by decide +kernel
theorem dL_law_621 : decode cL_law 621 = .ok (.iload_n 3, 1) := by decide +kernel
theorem dL_law_622 : decode cL_law 622 = .ok (.iconst 4, 1) := by decide +kernel
theorem dL_law_623 : decode cL_law 623 = .ok (.iadd, 1) := by decide +kernel
theorem dL_law_624 : decode cL_law 624 = .ok (.iaload, 1) := by decide +kernel
theorem dL_law_625 : decode cL_law 625 = .ok (.ifCond .eq 7, 3) := by decide +kernel
theorem dL_law_628 : decode cL_law 628 = .ok (.iconst 1, 1) := by decide +kernel
theorem dL_law_629 : decode cL_law 629 = .ok (.goto 4, 3) := by decide +kernel
theorem dL_law_632 : decode cL_law 632 = .ok (.iconst 0, 1) := by decide +kernel
theorem dL_law_633 : decode cL_law 633 = .ok (.invokevirtual 67, 3) := by decide +kernel
theorem dL_law_636 : decode cL_law 636 = .ok (.if_icmp .eq 754, 3) := by decide +kernel
theorem dL_law_639 : decode cL_law 639 = .ok (.iconst 0, 1) := by decide +kernel
theorem dL_law_640 : decode cL_law 640 = .ok (.ireturn, 1) := by decide +kernel
theorem dL_law_641 : decode cL_law 641 = .ok (.aload_n 1, 1) := by decide +kernel
theorem dL_law_642 : decode cL_law 642 = .ok (.aload_n 0, 1) := by decide +kernel
theorem dL_law_643 : decode cL_law 643 = .ok (.iload_n 3, 1) := by decide +kernel
theorem dL_law_644 : decode cL_law 644 = .ok (.iconst 1, 1) := by decide +kernel
theorem dL_law_645 : decode cL_law 645 = .ok (.iadd, 1) := by decide +kernel
theorem dL_law_646 : decode cL_law 646 = .ok (.iaload, 1) := by decide +kernel
theorem dL_law_647 : decode cL_law 647 = .ok (.aload_n 0, 1) := by decide +kernel
theorem dL_law_648 : decode cL_law 648 = .ok (.iload_n 3, 1) := by decide +kernel
theorem dL_law_649 : decode cL_law 649 = .ok (.iconst 2, 1) := by decide +kernel
theorem dL_law_650 : decode cL_law 650 = .ok (.iadd, 1) := by decide +kernel
theorem dL_law_651 : decode cL_law 651 = .ok (.iaload, 1) := by decide +kernel
theorem dL_law_652 : decode cL_law 652 = .ok (.invokevirtual 68, 3) := by decide +kernel
theorem dL_law_655 : decode cL_law 655 = .ok (.aload_n 2, 1) := by decide +kernel
theorem dL_law_656 : decode cL_law 656 = .ok (.aload_n 0, 1) := by decide +kernel
theorem dL_law_657 : decode cL_law 657 = .ok (.iload_n 3, 1) := by decide +kernel
theorem dL_law_658 : decode cL_law 658 = .ok (.iconst 1, 1) := by decide +kernel
theorem dL_law_659 : decode cL_law 659 = .ok (.iadd, 1) := by decide +kernel
theorem dL_law_660 : decode cL_law 660 = .ok (.iaload, 1) := by decide +kernel
theorem dL_law_661 : decode cL_law 661 = .ok (.aload_n 0, 1) := by decide +kernel
theorem dL_law_662 : decode cL_law 662 = .ok (.iload_n 3, 1) := by decide +kernel
theorem dL_law_663 : decode cL_law 663 = .ok (.iconst 2, 1) := by decide +kernel
theorem dL_law_664 : decode cL_law 664 = .ok (.iadd, 1) := by decide +kernel
theorem dL_law_665 : decode cL_law 665 = .ok (.iaload, 1) := by decide +kernel
theorem dL_law_666 : decode cL_law 666 = .ok (.invokevirtual 71, 3) := by decide +kernel
theorem dL_law_669 : decode cL_law 669 = .ok (.if_icmp .eq 721, 3) := by decide +kernel
theorem dL_law_672 : decode cL_law 672 = .ok (.iconst 0, 1) := by decide +kernel
theorem dL_law_673 : decode cL_law 673 = .ok (.ireturn, 1) := by decide +kernel
theorem dL_law_674 : decode cL_law 674 = .ok (.aload_n 1, 1) := by decide +kernel
theorem dL_law_675 : decode cL_law 675 = .ok (.aload_n 0, 1) := by decide +kernel
theorem dL_law_676 : decode cL_law 676 = .ok (.iload_n 3, 1) := by decide +kernel
theorem dL_law_677 : decode cL_law 677 = .ok (.iconst 1, 1) := by decide +kernel
theorem dL_law_678 : decode cL_law 678 = .ok (.iadd, 1) := by decide +kernel
theorem dL_law_679 : decode cL_law 679 = .ok (.iaload, 1) := by decide +kernel
theorem dL_law_680 : decode cL_law 680 = .ok (.aload_n 0, 1) := by decide +kernel
theorem dL_law_681 : decode cL_law 681 = .ok (.iload_n 3, 1) := by decide +kernel
theorem dL_law_682 : decode cL_law 682 = .ok (.iconst 2, 1) := by decide +kernel
theorem dL_law_683 : decode cL_law 683 = .ok (.iadd, 1) := by decide +kernel
theorem dL_law_684 : decode cL_law 684 = .ok (.iaload, 1) := by decide +kernel
theorem dL_law_685 : decode cL_law 685 = .ok (.aload_n 0, 1) := by decide +kernel
theorem dL_law_686 : decode cL_law 686 = .ok (.iload_n 3, 1) := by decide +kernel
theorem dL_law_687 : decode cL_law 687 = .ok (.iconst 3, 1) := by decide +kernel
theorem dL_law_688 : decode cL_law 688 = .ok (.iadd, 1) := by decide +kernel
theorem dL_law_689 : decode cL_law 689 = .ok (.iaload, 1) := by decide +kernel
theorem dL_law_690 : decode cL_law 690 = .ok (.aload_n 0, 1) := by decide +kernel
theorem dL_law_691 : decode cL_law 691 = .ok (.iload_n 3, 1) := by decide +kernel
theorem dL_law_692 : decode cL_law 692 = .ok (.iconst 4, 1) := by decide +kernel
theorem dL_law_693 : decode cL_law 693 = .ok (.iadd, 1) := by decide +kernel
theorem dL_law_694 : decode cL_law 694 = .ok (.iaload, 1) := by decide +kernel
theorem dL_law_695 : decode cL_law 695 = .ok (.invokevirtual 72, 3) := by decide +kernel
theorem dL_law_698 : decode cL_law 698 = .ok (.aload_n 2, 1) := by decide +kernel
theorem dL_law_699 : decode cL_law 699 = .ok (.aload_n 0, 1) := by decide +kernel
theorem dL_law_700 : decode cL_law 700 = .ok (.iload_n 3, 1) := by decide +kernel
theorem dL_law_701 : decode cL_law 701 = .ok (.iconst 1, 1) := by decide +kernel
theorem dL_law_702 : decode cL_law 702 = .ok (.iadd, 1) := by decide +kernel
theorem dL_law_703 : decode cL_law 703 = .ok (.iaload, 1) := by decide +kernel
theorem dL_law_704 : decode cL_law 704 = .ok (.aload_n 0, 1) := by decide +kernel
theorem dL_law_705 : decode cL_law 705 = .ok (.iload_n 3, 1) := by decide +kernel
theorem dL_law_706 : decode cL_law 706 = .ok (.iconst 2, 1) := by decide +kernel
theorem dL_law_707 : decode cL_law 707 = .ok (.iadd, 1) := by decide +kernel
theorem dL_law_708 : decode cL_law 708 = .ok (.iaload, 1) := by decide +kernel
theorem dL_law_709 : decode cL_law 709 = .ok (.aload_n 0, 1) := by decide +kernel
theorem dL_law_710 : decode cL_law 710 = .ok (.iload_n 3, 1) := by decide +kernel
theorem dL_law_711 : decode cL_law 711 = .ok (.iconst 3, 1) := by decide +kernel
theorem dL_law_712 : decode cL_law 712 = .ok (.iadd, 1) := by decide +kernel
theorem dL_law_713 : decode cL_law 713 = .ok (.iaload, 1) := by decide +kernel
theorem dL_law_714 : decode cL_law 714 = .ok (.aload_n 0, 1) := by decide +kernel
theorem dL_law_715 : decode cL_law 715 = .ok (.iload_n 3, 1) := by decide +kernel
theorem dL_law_716 : decode cL_law 716 = .ok (.iconst 4, 1) := by decide +kernel
theorem dL_law_717 : decode cL_law 717 = .ok (.iadd, 1) := by decide +kernel
theorem dL_law_718 : decode cL_law 718 = .ok (.iaload, 1) := by decide +kernel
theorem dL_law_719 : decode cL_law 719 = .ok (.invokevirtual 75, 3) := by decide +kernel
theorem dL_law_722 : decode cL_law 722 = .ok (.if_icmp .eq 668, 3) := by decide +kernel
theorem dL_law_725 : decode cL_law 725 = .ok (.iconst 0, 1) := by decide +kernel
theorem dL_law_726 : decode cL_law 726 = .ok (.ireturn, 1) := by decide +kernel
theorem dL_law_727 : decode cL_law 727 = .ok (.aload_n 1, 1) := by decide +kernel
theorem dL_law_728 : decode cL_law 728 = .ok (.aload_n 0, 1) := by decide +kernel
theorem dL_law_729 : decode cL_law 729 = .ok (.iload_n 3, 1) := by decide +kernel
theorem dL_law_730 : decode cL_law 730 = .ok (.iconst 1, 1) := by decide +kernel
theorem dL_law_731 : decode cL_law 731 = .ok (.iadd, 1) := by decide +kernel
theorem dL_law_732 : decode cL_law 732 = .ok (.iaload, 1) := by decide +kernel
theorem dL_law_733 : decode cL_law 733 = .ok (.aload_n 0, 1) := by decide +kernel
theorem dL_law_734 : decode cL_law 734 = .ok (.iload_n 3, 1) := by decide +kernel
theorem dL_law_735 : decode cL_law 735 = .ok (.iconst 2, 1) := by decide +kernel
theorem dL_law_736 : decode cL_law 736 = .ok (.iadd, 1) := by decide +kernel
theorem dL_law_737 : decode cL_law 737 = .ok (.iaload, 1) := by decide +kernel
theorem dL_law_738 : decode cL_law 738 = .ok (.invokevirtual 76, 3) := by decide +kernel
theorem dL_law_741 : decode cL_law 741 = .ok (.aload_n 2, 1) := by decide +kernel
theorem dL_law_742 : decode cL_law 742 = .ok (.aload_n 0, 1) := by decide +kernel
theorem dL_law_743 : decode cL_law 743 = .ok (.iload_n 3, 1) := by decide +kernel
theorem dL_law_744 : decode cL_law 744 = .ok (.iconst 1, 1) := by decide +kernel
theorem dL_law_745 : decode cL_law 745 = .ok (.iadd, 1) := by decide +kernel
theorem dL_law_746 : decode cL_law 746 = .ok (.iaload, 1) := by decide +kernel
theorem dL_law_747 : decode cL_law 747 = .ok (.aload_n 0, 1) := by decide +kernel
theorem dL_law_748 : decode cL_law 748 = .ok (.iload_n 3, 1) := by decide +kernel
theorem dL_law_749 : decode cL_law 749 = .ok (.iconst 2, 1) := by decide +kernel
theorem dL_law_750 : decode cL_law 750 = .ok (.iadd, 1) := by decide +kernel
theorem dL_law_751 : decode cL_law 751 = .ok (.iaload, 1) := by decide +kernel
theorem dL_law_752 : decode cL_law 752 = .ok (.invokevirtual 79, 3) := by decide +kernel
theorem dL_law_755 : decode cL_law 755 = .ok (.if_icmp .eq 635, 3) := by decide +kernel
theorem dL_law_758 : decode cL_law 758 = .ok (.iconst 0, 1) := by decide +kernel
theorem dL_law_759 : decode cL_law 759 = .ok (.ireturn, 1) := by decide +kernel
theorem dL_law_760 : decode cL_law 760 = .ok (.aload_n 1, 1) := by decide +kernel
theorem dL_law_761 : decode cL_law 761 = .ok (.aload_n 0, 1) := by decide +kernel
theorem dL_law_762 : decode cL_law 762 = .ok (.iload_n 3, 1) := by decide +kernel
theorem dL_law_763 : decode cL_law 763 = .ok (.iconst 1, 1) := by decide +kernel
theorem dL_law_764 : decode cL_law 764 = .ok (.iadd, 1) := by decide +kernel
theorem dL_law_765 : decode cL_law 765 = .ok (.iaload, 1) := by decide +kernel
theorem dL_law_766 : decode cL_law 766 = .ok (.aload_n 0, 1) := by decide +kernel
theorem dL_law_767 : decode cL_law 767 = .ok (.iload_n 3, 1) := by decide +kernel
theorem dL_law_768 : decode cL_law 768 = .ok (.iconst 2, 1) := by decide +kernel
theorem dL_law_769 : decode cL_law 769 = .ok (.iadd, 1) := by decide +kernel
theorem dL_law_770 : decode cL_law 770 = .ok (.iaload, 1) := by decide +kernel
theorem dL_law_771 : decode cL_law 771 = .ok (.aload_n 0, 1) := by decide +kernel
theorem dL_law_772 : decode cL_law 772 = .ok (.iload_n 3, 1) := by decide +kernel
theorem dL_law_773 : decode cL_law 773 = .ok (.iconst 3, 1) := by decide +kernel
theorem dL_law_774 : decode cL_law 774 = .ok (.iadd, 1) := by decide +kernel
theorem dL_law_775 : decode cL_law 775 = .ok (.iaload, 1) := by decide +kernel
theorem dL_law_776 : decode cL_law 776 = .ok (.aload_n 0, 1) := by decide +kernel
theorem dL_law_777 : decode cL_law 777 = .ok (.iload_n 3, 1) := by decide +kernel
theorem dL_law_778 : decode cL_law 778 = .ok (.iconst 4, 1) := by decide +kernel
theorem dL_law_779 : decode cL_law 779 = .ok (.iadd, 1) := by decide +kernel
theorem dL_law_780 : decode cL_law 780 = .ok (.iaload, 1) := by decide +kernel
theorem dL_law_781 : decode cL_law 781 = .ok (.aload_n 0, 1) := by decide +kernel
theorem dL_law_782 : decode cL_law 782 = .ok (.iload_n 3, 1) := by decide +kernel
theorem dL_law_783 : decode cL_law 783 = .ok (.iconst 5, 1) := by decide +kernel
theorem dL_law_784 : decode cL_law 784 = .ok (.iadd, 1) := by decide +kernel
theorem dL_law_785 : decode cL_law 785 = .ok (.iaload, 1) := by decide +kernel
theorem dL_law_786 : decode cL_law 786 = .ok (.invokevirtual 80, 3) := by decide +kernel
theorem dL_law_789 : decode cL_law 789 = .ok (.aload_n 2, 1) := by decide +kernel
theorem dL_law_790 : decode cL_law 790 = .ok (.aload_n 0, 1) := by decide +kernel
theorem dL_law_791 : decode cL_law 791 = .ok (.iload_n 3, 1) := by decide +kernel
theorem dL_law_792 : decode cL_law 792 = .ok (.iconst 1, 1) := by decide +kernel
theorem dL_law_793 : decode cL_law 793 = .ok (.iadd, 1) := by decide +kernel
theorem dL_law_794 : decode cL_law 794 = .ok (.iaload, 1) := by decide +kernel
theorem dL_law_795 : decode cL_law 795 = .ok (.aload_n 0, 1) := by decide +kernel
theorem dL_law_796 : decode cL_law 796 = .ok (.iload_n 3, 1) := by decide +kernel
theorem dL_law_797 : decode cL_law 797 = .ok (.iconst 2, 1) := by decide +kernel
theorem dL_law_798 : decode cL_law 798 = .ok (.iadd, 1) := by decide +kernel
theorem dL_law_799 : decode cL_law 799 = .ok (.iaload, 1) := by decide +kernel
theorem dL_law_800 : decode cL_law 800 = .ok (.aload_n 0, 1) := by decide +kernel
theorem dL_law_801 : decode cL_law 801 = .ok (.iload_n 3, 1) := by decide +kernel
theorem dL_law_802 : decode cL_law 802 = .ok (.iconst 3, 1) := by decide +kernel
theorem dL_law_803 : decode cL_law 803 = .ok (.iadd, 1) := by decide +kernel
theorem dL_law_804 : decode cL_law 804 = .ok (.iaload, 1) := by decide +kernel
theorem dL_law_805 : decode cL_law 805 = .ok (.aload_n 0, 1) := by decide +kernel
theorem dL_law_806 : decode cL_law 806 = .ok (.iload_n 3, 1) := by decide +kernel
theorem dL_law_807 : decode cL_law 807 = .ok (.iconst 4, 1) := by decide +kernel
theorem dL_law_808 : decode cL_law 808 = .ok (.iadd, 1) := by decide +kernel
theorem dL_law_809 : decode cL_law 809 = .ok (.iaload, 1) := by decide +kernel
theorem dL_law_810 : decode cL_law 810 = .ok (.aload_n 0, 1) := by decide +kernel
theorem dL_law_811 : decode cL_law 811 = .ok (.iload_n 3, 1) := by decide +kernel
theorem dL_law_812 : decode cL_law 812 = .ok (.iconst 5, 1) := by decide +kernel
theorem dL_law_813 : decode cL_law 813 = .ok (.iadd, 1) := by decide +kernel
theorem dL_law_814 : decode cL_law 814 = .ok (.iaload, 1) := by decide +kernel
theorem dL_law_815 : decode cL_law 815 = .ok (.invokevirtual 84, 3) := by decide +kernel
theorem dL_law_818 : decode cL_law 818 = .ok (.lcmp, 1) := by decide +kernel
theorem dL_law_819 : decode cL_law 819 = .ok (.ifCond .eq 571, 3) := by decide +kernel
theorem dL_law_822 : decode cL_law 822 = .ok (.iconst 0, 1) := by decide +kernel
theorem dL_law_823 : decode cL_law 823 = .ok (.ireturn, 1) := by decide +kernel
theorem dL_law_824 : decode cL_law 824 = .ok (.aload_n 1, 1) := by decide +kernel
theorem dL_law_825 : decode cL_law 825 = .ok (.aload_n 0, 1) := by decide +kernel
theorem dL_law_826 : decode cL_law 826 = .ok (.iload_n 3, 1) := by decide +kernel
theorem dL_law_827 : decode cL_law 827 = .ok (.iconst 1, 1) := by decide +kernel
theorem dL_law_828 : decode cL_law 828 = .ok (.iadd, 1) := by decide +kernel
theorem dL_law_829 : decode cL_law 829 = .ok (.iaload, 1) := by decide +kernel
theorem dL_law_830 : decode cL_law 830 = .ok (.aload_n 0, 1) := by decide +kernel
theorem dL_law_831 : decode cL_law 831 = .ok (.iload_n 3, 1) := by decide +kernel
theorem dL_law_832 : decode cL_law 832 = .ok (.iconst 2, 1) := by decide +kernel
theorem dL_law_833 : decode cL_law 833 = .ok (.iadd, 1) := by decide +kernel
theorem dL_law_834 : decode cL_law 834 = .ok (.iaload, 1) := by decide +kernel
theorem dL_law_835 : decode cL_law 835 = .ok (.aload_n 0, 1) := by decide +kernel
theorem dL_law_836 : decode cL_law 836 = .ok (.iload_n 3, 1) := by decide +kernel
theorem dL_law_837 : decode cL_law 837 = .ok (.iconst 3, 1) := by decide +kernel
theorem dL_law_838 : decode cL_law 838 = .ok (.iadd, 1) := by decide +kernel
theorem dL_law_839 : decode cL_law 839 = .ok (.iaload, 1) := by decide +kernel
theorem dL_law_840 : decode cL_law 840 = .ok (.invokevirtual 85, 3) := by decide +kernel
theorem dL_law_843 : decode cL_law 843 = .ok (.aload_n 2, 1) := by decide +kernel
theorem dL_law_844 : decode cL_law 844 = .ok (.aload_n 0, 1) := by decide +kernel
theorem dL_law_845 : decode cL_law 845 = .ok (.iload_n 3, 1) := by decide +kernel
theorem dL_law_846 : decode cL_law 846 = .ok (.iconst 1, 1) := by decide +kernel
theorem dL_law_847 : decode cL_law 847 = .ok (.iadd, 1) := by decide +kernel
theorem dL_law_848 : decode cL_law 848 = .ok (.iaload, 1) := by decide +kernel
theorem dL_law_849 : decode cL_law 849 = .ok (.aload_n 0, 1) := by decide +kernel
theorem dL_law_850 : decode cL_law 850 = .ok (.iload_n 3, 1) := by decide +kernel
theorem dL_law_851 : decode cL_law 851 = .ok (.iconst 2, 1) := by decide +kernel
theorem dL_law_852 : decode cL_law 852 = .ok (.iadd, 1) := by decide +kernel
theorem dL_law_853 : decode cL_law 853 = .ok (.iaload, 1) := by decide +kernel
theorem dL_law_854 : decode cL_law 854 = .ok (.aload_n 0, 1) := by decide +kernel
theorem dL_law_855 : decode cL_law 855 = .ok (.iload_n 3, 1) := by decide +kernel
theorem dL_law_856 : decode cL_law 856 = .ok (.iconst 3, 1) := by decide +kernel
theorem dL_law_857 : decode cL_law 857 = .ok (.iadd, 1) := by decide +kernel
theorem dL_law_858 : decode cL_law 858 = .ok (.iaload, 1) := by decide +kernel
theorem dL_law_859 : decode cL_law 859 = .ok (.invokevirtual 88, 3) := by decide +kernel
theorem dL_law_862 : decode cL_law 862 = .ok (.if_icmp .eq 528, 3) := by decide +kernel
theorem dL_law_865 : decode cL_law 865 = .ok (.iconst 0, 1) := by decide +kernel
theorem dL_law_866 : decode cL_law 866 = .ok (.ireturn, 1) := by decide +kernel
theorem dL_law_867 : decode cL_law 867 = .ok (.aload_n 1, 1) := by decide +kernel
theorem dL_law_868 : decode cL_law 868 = .ok (.aload_n 0, 1) := by decide +kernel
theorem dL_law_869 : decode cL_law 869 = .ok (.iload_n 3, 1) := by decide +kernel
theorem dL_law_870 : decode cL_law 870 = .ok (.iconst 1, 1) := by decide +kernel
theorem dL_law_871 : decode cL_law 871 = .ok (.iadd, 1) := by decide +kernel
theorem dL_law_872 : decode cL_law 872 = .ok (.iaload, 1) := by decide +kernel
theorem dL_law_873 : decode cL_law 873 = .ok (.aload_n 0, 1) := by decide +kernel
theorem dL_law_874 : decode cL_law 874 = .ok (.iload_n 3, 1) := by decide +kernel
theorem dL_law_875 : decode cL_law 875 = .ok (.iconst 2, 1) := by decide +kernel
theorem dL_law_876 : decode cL_law 876 = .ok (.iadd, 1) := by decide +kernel
theorem dL_law_877 : decode cL_law 877 = .ok (.iaload, 1) := by decide +kernel
theorem dL_law_878 : decode cL_law 878 = .ok (.aload_n 0, 1) := by decide +kernel
theorem dL_law_879 : decode cL_law 879 = .ok (.iload_n 3, 1) := by decide +kernel
theorem dL_law_880 : decode cL_law 880 = .ok (.iconst 3, 1) := by decide +kernel
theorem dL_law_881 : decode cL_law 881 = .ok (.iadd, 1) := by decide +kernel
theorem dL_law_882 : decode cL_law 882 = .ok (.iaload, 1) := by decide +kernel
theorem dL_law_883 : decode cL_law 883 = .ok (.aload_n 0, 1) := by decide +kernel
theorem dL_law_884 : decode cL_law 884 = .ok (.iload_n 3, 1) := by decide +kernel
theorem dL_law_885 : decode cL_law 885 = .ok (.iconst 4, 1) := by decide +kernel
theorem dL_law_886 : decode cL_law 886 = .ok (.iadd, 1) := by decide +kernel
theorem dL_law_887 : decode cL_law 887 = .ok (.iaload, 1) := by decide +kernel
theorem dL_law_888 : decode cL_law 888 = .ok (.invokevirtual 89, 3) := by decide +kernel
theorem dL_law_891 : decode cL_law 891 = .ok (.aload_n 2, 1) := by decide +kernel
theorem dL_law_892 : decode cL_law 892 = .ok (.aload_n 0, 1) := by decide +kernel
theorem dL_law_893 : decode cL_law 893 = .ok (.iload_n 3, 1) := by decide +kernel
theorem dL_law_894 : decode cL_law 894 = .ok (.iconst 1, 1) := by decide +kernel
theorem dL_law_895 : decode cL_law 895 = .ok (.iadd, 1) := by decide +kernel
theorem dL_law_896 : decode cL_law 896 = .ok (.iaload, 1) := by decide +kernel
theorem dL_law_897 : decode cL_law 897 = .ok (.aload_n 0, 1) := by decide +kernel
theorem dL_law_898 : decode cL_law 898 = .ok (.iload_n 3, 1) := by decide +kernel
theorem dL_law_899 : decode cL_law 899 = .ok (.iconst 2, 1) := by decide +kernel
theorem dL_law_900 : decode cL_law 900 = .ok (.iadd, 1) := by decide +kernel
theorem dL_law_901 : decode cL_law 901 = .ok (.iaload, 1) := by decide +kernel
theorem dL_law_902 : decode cL_law 902 = .ok (.aload_n 0, 1) := by decide +kernel
theorem dL_law_903 : decode cL_law 903 = .ok (.iload_n 3, 1) := by decide +kernel
theorem dL_law_904 : decode cL_law 904 = .ok (.iconst 3, 1) := by decide +kernel
theorem dL_law_905 : decode cL_law 905 = .ok (.iadd, 1) := by decide +kernel
theorem dL_law_906 : decode cL_law 906 = .ok (.iaload, 1) := by decide +kernel
theorem dL_law_907 : decode cL_law 907 = .ok (.aload_n 0, 1) := by decide +kernel
theorem dL_law_908 : decode cL_law 908 = .ok (.iload_n 3, 1) := by decide +kernel
theorem dL_law_909 : decode cL_law 909 = .ok (.iconst 4, 1) := by decide +kernel
theorem dL_law_910 : decode cL_law 910 = .ok (.iadd, 1) := by decide +kernel
theorem dL_law_911 : decode cL_law 911 = .ok (.iaload, 1) := by decide +kernel
theorem dL_law_912 : decode cL_law 912 = .ok (.invokevirtual 93, 3) := by decide +kernel
theorem dL_law_915 : decode cL_law 915 = .ok (.lcmp, 1) := by decide +kernel
theorem dL_law_916 : decode cL_law 916 = .ok (.ifCond .eq 474, 3) := by decide +kernel
theorem dL_law_919 : decode cL_law 919 = .ok (.iconst 0, 1) := by decide +kernel
theorem dL_law_920 : decode cL_law 920 = .ok (.ireturn, 1) := by decide +kernel
theorem dL_law_921 : decode cL_law 921 = .ok (.aload_n 1, 1) := by decide +kernel
theorem dL_law_922 : decode cL_law 922 = .ok (.aload_n 0, 1) := by decide +kernel
theorem dL_law_923 : decode cL_law 923 = .ok (.iload_n 3, 1) := by decide +kernel
theorem dL_law_924 : decode cL_law 924 = .ok (.iconst 1, 1) := by decide +kernel
theorem dL_law_925 : decode cL_law 925 = .ok (.iadd, 1) := by decide +kernel
theorem dL_law_926 : decode cL_law 926 = .ok (.iaload, 1) := by decide +kernel
theorem dL_law_927 : decode cL_law 927 = .ok (.aload_n 0, 1) := by decide +kernel
theorem dL_law_928 : decode cL_law 928 = .ok (.iload_n 3, 1) := by decide +kernel
theorem dL_law_929 : decode cL_law 929 = .ok (.iconst 2, 1) := by decide +kernel
theorem dL_law_930 : decode cL_law 930 = .ok (.iadd, 1) := by decide +kernel
theorem dL_law_931 : decode cL_law 931 = .ok (.iaload, 1) := by decide +kernel
theorem dL_law_932 : decode cL_law 932 = .ok (.aload_n 0, 1) := by decide +kernel
theorem dL_law_933 : decode cL_law 933 = .ok (.iload_n 3, 1) := by decide +kernel
theorem dL_law_934 : decode cL_law 934 = .ok (.iconst 3, 1) := by decide +kernel
theorem dL_law_935 : decode cL_law 935 = .ok (.iadd, 1) := by decide +kernel
theorem dL_law_936 : decode cL_law 936 = .ok (.iaload, 1) := by decide +kernel
theorem dL_law_937 : decode cL_law 937 = .ok (.invokevirtual 94, 3) := by decide +kernel
theorem dL_law_940 : decode cL_law 940 = .ok (.aload_n 2, 1) := by decide +kernel
theorem dL_law_941 : decode cL_law 941 = .ok (.aload_n 0, 1) := by decide +kernel
theorem dL_law_942 : decode cL_law 942 = .ok (.iload_n 3, 1) := by decide +kernel
theorem dL_law_943 : decode cL_law 943 = .ok (.iconst 1, 1) := by decide +kernel
theorem dL_law_944 : decode cL_law 944 = .ok (.iadd, 1) := by decide +kernel
theorem dL_law_945 : decode cL_law 945 = .ok (.iaload, 1) := by decide +kernel
theorem dL_law_946 : decode cL_law 946 = .ok (.aload_n 0, 1) := by decide +kernel
theorem dL_law_947 : decode cL_law 947 = .ok (.iload_n 3, 1) := by decide +kernel
theorem dL_law_948 : decode cL_law 948 = .ok (.iconst 2, 1) := by decide +kernel
theorem dL_law_949 : decode cL_law 949 = .ok (.iadd, 1) := by decide +kernel
theorem dL_law_950 : decode cL_law 950 = .ok (.iaload, 1) := by decide +kernel
theorem dL_law_951 : decode cL_law 951 = .ok (.aload_n 0, 1) := by decide +kernel
theorem dL_law_952 : decode cL_law 952 = .ok (.iload_n 3, 1) := by decide +kernel
theorem dL_law_953 : decode cL_law 953 = .ok (.iconst 3, 1) := by decide +kernel
theorem dL_law_954 : decode cL_law 954 = .ok (.iadd, 1) := by decide +kernel
theorem dL_law_955 : decode cL_law 955 = .ok (.iaload, 1) := by decide +kernel
theorem dL_law_956 : decode cL_law 956 = .ok (.invokevirtual 97, 3) := by decide +kernel
theorem dL_law_959 : decode cL_law 959 = .ok (.if_icmp .eq 431, 3) := by decide +kernel
theorem dL_law_962 : decode cL_law 962 = .ok (.iconst 0, 1) := by decide +kernel
theorem dL_law_963 : decode cL_law 963 = .ok (.ireturn, 1) := by decide +kernel
theorem dL_law_964 : decode cL_law 964 = .ok (.aload_n 1, 1) := by decide +kernel
theorem dL_law_965 : decode cL_law 965 = .ok (.aload_n 0, 1) := by decide +kernel
theorem dL_law_966 : decode cL_law 966 = .ok (.iload_n 3, 1) := by decide +kernel
theorem dL_law_967 : decode cL_law 967 = .ok (.iconst 1, 1) := by decide +kernel
theorem dL_law_968 : decode cL_law 968 = .ok (.iadd, 1) := by decide +kernel
theorem dL_law_969 : decode cL_law 969 = .ok (.iaload, 1) := by decide +kernel
theorem dL_law_970 : decode cL_law 970 = .ok (.aload_n 0, 1) := by decide +kernel
theorem dL_law_971 : decode cL_law 971 = .ok (.iload_n 3, 1) := by decide +kernel
theorem dL_law_972 : decode cL_law 972 = .ok (.iconst 2, 1) := by decide +kernel
theorem dL_law_973 : decode cL_law 973 = .ok (.iadd, 1) := by decide +kernel
theorem dL_law_974 : decode cL_law 974 = .ok (.iaload, 1) := by decide +kernel
theorem dL_law_975 : decode cL_law 975 = .ok (.aload_n 0, 1) := by decide +kernel
theorem dL_law_976 : decode cL_law 976 = .ok (.iload_n 3, 1) := by decide +kernel
theorem dL_law_977 : decode cL_law 977 = .ok (.iconst 3, 1) := by decide +kernel
theorem dL_law_978 : decode cL_law 978 = .ok (.iadd, 1) := by decide +kernel
theorem dL_law_979 : decode cL_law 979 = .ok (.iaload, 1) := by decide +kernel
theorem dL_law_980 : decode cL_law 980 = .ok (.aload_n 0, 1) := by decide +kernel
theorem dL_law_981 : decode cL_law 981 = .ok (.iload_n 3, 1) := by decide +kernel
theorem dL_law_982 : decode cL_law 982 = .ok (.iconst 4, 1) := by decide +kernel
theorem dL_law_983 : decode cL_law 983 = .ok (.iadd, 1) := by decide +kernel
theorem dL_law_984 : decode cL_law 984 = .ok (.iaload, 1) := by decide +kernel
theorem dL_law_985 : decode cL_law 985 = .ok (.invokevirtual 98, 3) := by decide +kernel
theorem dL_law_988 : decode cL_law 988 = .ok (.aload_n 2, 1) := by decide +kernel
theorem dL_law_989 : decode cL_law 989 = .ok (.aload_n 0, 1) := by decide +kernel
theorem dL_law_990 : decode cL_law 990 = .ok (.iload_n 3, 1) := by decide +kernel
theorem dL_law_991 : decode cL_law 991 = .ok (.iconst 1, 1) := by decide +kernel
theorem dL_law_992 : decode cL_law 992 = .ok (.iadd, 1) := by decide +kernel
theorem dL_law_993 : decode cL_law 993 = .ok (.iaload, 1) := by decide +kernel
theorem dL_law_994 : decode cL_law 994 = .ok (.aload_n 0, 1) := by decide +kernel
theorem dL_law_995 : decode cL_law 995 = .ok (.iload_n 3, 1) := by decide +kernel
theorem dL_law_996 : decode cL_law 996 = .ok (.iconst 2, 1) := by decide +kernel
theorem dL_law_997 : decode cL_law 997 = .ok (.iadd, 1) := by decide +kernel
theorem dL_law_998 : decode cL_law 998 = .ok (.iaload, 1) := by decide +kernel
theorem dL_law_999 : decode cL_law 999 = .ok (.aload_n 0, 1) := by decide +kernel
theorem dL_law_1000 : decode cL_law 1000 = .ok (.iload_n 3, 1) := by decide +kernel
theorem dL_law_1001 : decode cL_law 1001 = .ok (.iconst 3, 1) := by decide +kernel
theorem dL_law_1002 : decode cL_law 1002 = .ok (.iadd, 1) := by decide +kernel
theorem dL_law_1003 : decode cL_law 1003 = .ok (.iaload, 1) := by decide +kernel
theorem dL_law_1004 : decode cL_law 1004 = .ok (.aload_n 0, 1) := by decide +kernel
theorem dL_law_1005 : decode cL_law 1005 = .ok (.iload_n 3, 1) := by decide +kernel
theorem dL_law_1006 : decode cL_law 1006 = .ok (.iconst 4, 1) := by decide +kernel
theorem dL_law_1007 : decode cL_law 1007 = .ok (.iadd, 1) := by decide +kernel
theorem dL_law_1008 : decode cL_law 1008 = .ok (.iaload, 1) := by decide +kernel
theorem dL_law_1009 : decode cL_law 1009 = .ok (.invokevirtual 101, 3) := by decide +kernel
theorem dL_law_1012 : decode cL_law 1012 = .ok (.if_icmp .eq 378, 3) := by decide +kernel
theorem dL_law_1015 : decode cL_law 1015 = .ok (.iconst 0, 1) := by decide +kernel
theorem dL_law_1016 : decode cL_law 1016 = .ok (.ireturn, 1) := by decide +kernel
theorem dL_law_1017 : decode cL_law 1017 = .ok (.aload_n 1, 1) := by decide +kernel
theorem dL_law_1018 : decode cL_law 1018 = .ok (.aload_n 0, 1) := by decide +kernel
theorem dL_law_1019 : decode cL_law 1019 = .ok (.iload_n 3, 1) := by decide +kernel
theorem dL_law_1020 : decode cL_law 1020 = .ok (.iconst 1, 1) := by decide +kernel
theorem dL_law_1021 : decode cL_law 1021 = .ok (.iadd, 1) := by decide +kernel
theorem dL_law_1022 : decode cL_law 1022 = .ok (.iaload, 1) := by decide +kernel
theorem dL_law_1023 : decode cL_law 1023 = .ok (.aload_n 0, 1) := by decide +kernel
theorem dL_law_1024 : decode cL_law 1024 = .ok (.iload_n 3, 1) := by decide +kernel
theorem dL_law_1025 : decode cL_law 1025 = .ok (.iconst 2, 1) := by decide +kernel
theorem dL_law_1026 : decode cL_law 1026 = .ok (.iadd, 1) := by decide +kernel
theorem dL_law_1027 : decode cL_law 1027 = .ok (.iaload, 1) := by decide +kernel
theorem dL_law_1028 : decode cL_law 1028 = .ok (.aload_n 0, 1) := by decide +kernel
theorem dL_law_1029 : decode cL_law 1029 = .ok (.iload_n 3, 1) := by decide +kernel
theorem dL_law_1030 : decode cL_law 1030 = .ok (.iconst 3, 1) := by decide +kernel
theorem dL_law_1031 : decode cL_law 1031 = .ok (.iadd, 1) := by decide +kernel
theorem dL_law_1032 : decode cL_law 1032 = .ok (.iaload, 1) := by decide +kernel
theorem dL_law_1033 : decode cL_law 1033 = .ok (.invokevirtual 102, 3) := by decide +kernel
theorem dL_law_1036 : decode cL_law 1036 = .ok (.aload_n 2, 1) := by decide +kernel
theorem dL_law_1037 : decode cL_law 1037 = .ok (.aload_n 0, 1) := by decide +kernel
theorem dL_law_1038 : decode cL_law 1038 = .ok (.iload_n 3, 1) := by decide +kernel
theorem dL_law_1039 : decode cL_law 1039 = .ok (.iconst 1, 1) := by decide +kernel
theorem dL_law_1040 : decode cL_law 1040 = .ok (.iadd, 1) := by decide +kernel
theorem dL_law_1041 : decode cL_law 1041 = .ok (.iaload, 1) := by decide +kernel
theorem dL_law_1042 : decode cL_law 1042 = .ok (.aload_n 0, 1) := by decide +kernel
theorem dL_law_1043 : decode cL_law 1043 = .ok (.iload_n 3, 1) := by decide +kernel
theorem dL_law_1044 : decode cL_law 1044 = .ok (.iconst 2, 1) := by decide +kernel
theorem dL_law_1045 : decode cL_law 1045 = .ok (.iadd, 1) := by decide +kernel
theorem dL_law_1046 : decode cL_law 1046 = .ok (.iaload, 1) := by decide +kernel
theorem dL_law_1047 : decode cL_law 1047 = .ok (.aload_n 0, 1) := by decide +kernel
theorem dL_law_1048 : decode cL_law 1048 = .ok (.iload_n 3, 1) := by decide +kernel
theorem dL_law_1049 : decode cL_law 1049 = .ok (.iconst 3, 1) := by decide +kernel
theorem dL_law_1050 : decode cL_law 1050 = .ok (.iadd, 1) := by decide +kernel
theorem dL_law_1051 : decode cL_law 1051 = .ok (.iaload, 1) := by decide +kernel
theorem dL_law_1052 : decode cL_law 1052 = .ok (.invokevirtual 105, 3) := by decide +kernel
theorem dL_law_1055 : decode cL_law 1055 = .ok (.if_icmp .eq 335, 3) := by decide +kernel
theorem dL_law_1058 : decode cL_law 1058 = .ok (.iconst 0, 1) := by decide +kernel
theorem dL_law_1059 : decode cL_law 1059 = .ok (.ireturn, 1) := by decide +kernel
theorem dL_law_1060 : decode cL_law 1060 = .ok (.aload_n 1, 1) := by decide +kernel
theorem dL_law_1061 : decode cL_law 1061 = .ok (.aload_n 0, 1) := by decide +kernel
theorem dL_law_1062 : decode cL_law 1062 = .ok (.iload_n 3, 1) := by decide +kernel
theorem dL_law_1063 : decode cL_law 1063 = .ok (.iconst 1, 1) := by decide +kernel
theorem dL_law_1064 : decode cL_law 1064 = .ok (.iadd, 1) := by decide +kernel
theorem dL_law_1065 : decode cL_law 1065 = .ok (.iaload, 1) := by decide +kernel
theorem dL_law_1066 : decode cL_law 1066 = .ok (.aload_n 0, 1) := by decide +kernel
theorem dL_law_1067 : decode cL_law 1067 = .ok (.iload_n 3, 1) := by decide +kernel
theorem dL_law_1068 : decode cL_law 1068 = .ok (.iconst 2, 1) := by decide +kernel
theorem dL_law_1069 : decode cL_law 1069 = .ok (.iadd, 1) := by decide +kernel
theorem dL_law_1070 : decode cL_law 1070 = .ok (.iaload, 1) := by decide +kernel
theorem dL_law_1071 : decode cL_law 1071 = .ok (.invokevirtual 106, 3) := by decide +kernel
theorem dL_law_1074 : decode cL_law 1074 = .ok (.aload_n 2, 1) := by decide +kernel
theorem dL_law_1075 : decode cL_law 1075 = .ok (.aload_n 0, 1) := by decide +kernel
theorem dL_law_1076 : decode cL_law 1076 = .ok (.iload_n 3, 1) := by decide +kernel
theorem dL_law_1077 : decode cL_law 1077 = .ok (.iconst 1, 1) := by decide +kernel
theorem dL_law_1078 : decode cL_law 1078 = .ok (.iadd, 1) := by decide +kernel
theorem dL_law_1079 : decode cL_law 1079 = .ok (.iaload, 1) := by decide +kernel
theorem dL_law_1080 : decode cL_law 1080 = .ok (.aload_n 0, 1) := by decide +kernel
theorem dL_law_1081 : decode cL_law 1081 = .ok (.iload_n 3, 1) := by decide +kernel
theorem dL_law_1082 : decode cL_law 1082 = .ok (.iconst 2, 1) := by decide +kernel
theorem dL_law_1083 : decode cL_law 1083 = .ok (.iadd, 1) := by decide +kernel
theorem dL_law_1084 : decode cL_law 1084 = .ok (.iaload, 1) := by decide +kernel
theorem dL_law_1085 : decode cL_law 1085 = .ok (.invokevirtual 109, 3) := by decide +kernel
theorem dL_law_1088 : decode cL_law 1088 = .ok (.if_icmp .eq 302, 3) := by decide +kernel
theorem dL_law_1091 : decode cL_law 1091 = .ok (.iconst 0, 1) := by decide +kernel
theorem dL_law_1092 : decode cL_law 1092 = .ok (.ireturn, 1) := by decide +kernel
theorem dL_law_1093 : decode cL_law 1093 = .ok (.aload_n 1, 1) := by decide +kernel
theorem dL_law_1094 : decode cL_law 1094 = .ok (.aload_n 0, 1) := by decide +kernel
theorem dL_law_1095 : decode cL_law 1095 = .ok (.iload_n 3, 1) := by decide +kernel
theorem dL_law_1096 : decode cL_law 1096 = .ok (.iconst 1, 1) := by decide +kernel
theorem dL_law_1097 : decode cL_law 1097 = .ok (.iadd, 1) := by decide +kernel
theorem dL_law_1098 : decode cL_law 1098 = .ok (.iaload, 1) := by decide +kernel
theorem dL_law_1099 : decode cL_law 1099 = .ok (.aload_n 0, 1) := by decide +kernel
theorem dL_law_1100 : decode cL_law 1100 = .ok (.iload_n 3, 1) := by decide +kernel
theorem dL_law_1101 : decode cL_law 1101 = .ok (.iconst 2, 1) := by decide +kernel
theorem dL_law_1102 : decode cL_law 1102 = .ok (.iadd, 1) := by decide +kernel
theorem dL_law_1103 : decode cL_law 1103 = .ok (.iaload, 1) := by decide +kernel
theorem dL_law_1104 : decode cL_law 1104 = .ok (.invokevirtual 110, 3) := by decide +kernel
theorem dL_law_1107 : decode cL_law 1107 = .ok (.aload_n 2, 1) := by decide +kernel
theorem dL_law_1108 : decode cL_law 1108 = .ok (.aload_n 0, 1) := by decide +kernel
theorem dL_law_1109 : decode cL_law 1109 = .ok (.iload_n 3, 1) := by decide +kernel
theorem dL_law_1110 : decode cL_law 1110 = .ok (.iconst 1, 1) := by decide +kernel
theorem dL_law_1111 : decode cL_law 1111 = .ok (.iadd, 1) := by decide +kernel
theorem dL_law_1112 : decode cL_law 1112 = .ok (.iaload, 1) := by decide +kernel
theorem dL_law_1113 : decode cL_law 1113 = .ok (.aload_n 0, 1) := by decide +kernel
theorem dL_law_1114 : decode cL_law 1114 = .ok (.iload_n 3, 1) := by decide +kernel
theorem dL_law_1115 : decode cL_law 1115 = .ok (.iconst 2, 1) := by decide +kernel
theorem dL_law_1116 : decode cL_law 1116 = .ok (.iadd, 1) := by decide +kernel
theorem dL_law_1117 : decode cL_law 1117 = .ok (.iaload, 1) := by decide +kernel
theorem dL_law_1118 : decode cL_law 1118 = .ok (.invokevirtual 113, 3) := by decide +kernel
theorem dL_law_1121 : decode cL_law 1121 = .ok (.if_icmp .eq 269, 3) := by decide +kernel
theorem dL_law_1124 : decode cL_law 1124 = .ok (.iconst 0, 1) := by decide +kernel
theorem dL_law_1125 : decode cL_law 1125 = .ok (.ireturn, 1) := by decide +kernel
theorem dL_law_1126 : decode cL_law 1126 = .ok (.aload_n 1, 1) := by decide +kernel
theorem dL_law_1127 : decode cL_law 1127 = .ok (.aload_n 0, 1) := by decide +kernel
theorem dL_law_1128 : decode cL_law 1128 = .ok (.iload_n 3, 1) := by decide +kernel
theorem dL_law_1129 : decode cL_law 1129 = .ok (.iconst 1, 1) := by decide +kernel
theorem dL_law_1130 : decode cL_law 1130 = .ok (.iadd, 1) := by decide +kernel
theorem dL_law_1131 : decode cL_law 1131 = .ok (.iaload, 1) := by decide +kernel
theorem dL_law_1132 : decode cL_law 1132 = .ok (.aload_n 0, 1) := by decide +kernel
theorem dL_law_1133 : decode cL_law 1133 = .ok (.iload_n 3, 1) := by decide +kernel
theorem dL_law_1134 : decode cL_law 1134 = .ok (.iconst 2, 1) := by decide +kernel
theorem dL_law_1135 : decode cL_law 1135 = .ok (.iadd, 1) := by decide +kernel
theorem dL_law_1136 : decode cL_law 1136 = .ok (.iaload, 1) := by decide +kernel
theorem dL_law_1137 : decode cL_law 1137 = .ok (.invokevirtual 114, 3) := by decide +kernel
theorem dL_law_1140 : decode cL_law 1140 = .ok (.aload_n 2, 1) := by decide +kernel
theorem dL_law_1141 : decode cL_law 1141 = .ok (.aload_n 0, 1) := by decide +kernel
theorem dL_law_1142 : decode cL_law 1142 = .ok (.iload_n 3, 1) := by decide +kernel
theorem dL_law_1143 : decode cL_law 1143 = .ok (.iconst 1, 1) := by decide +kernel
theorem dL_law_1144 : decode cL_law 1144 = .ok (.iadd, 1) := by decide +kernel
theorem dL_law_1145 : decode cL_law 1145 = .ok (.iaload, 1) := by decide +kernel
theorem dL_law_1146 : decode cL_law 1146 = .ok (.aload_n 0, 1) := by decide +kernel
theorem dL_law_1147 : decode cL_law 1147 = .ok (.iload_n 3, 1) := by decide +kernel
theorem dL_law_1148 : decode cL_law 1148 = .ok (.iconst 2, 1) := by decide +kernel
theorem dL_law_1149 : decode cL_law 1149 = .ok (.iadd, 1) := by decide +kernel
theorem dL_law_1150 : decode cL_law 1150 = .ok (.iaload, 1) := by decide +kernel
theorem dL_law_1151 : decode cL_law 1151 = .ok (.invokevirtual 117, 3) := by decide +kernel
theorem dL_law_1154 : decode cL_law 1154 = .ok (.if_icmp .eq 236, 3) := by decide +kernel
theorem dL_law_1157 : decode cL_law 1157 = .ok (.iconst 0, 1) := by decide +kernel
theorem dL_law_1158 : decode cL_law 1158 = .ok (.ireturn, 1) := by decide +kernel
theorem dL_law_1159 : decode cL_law 1159 = .ok (.aload_n 1, 1) := by decide +kernel
theorem dL_law_1160 : decode cL_law 1160 = .ok (.aload_n 0, 1) := by decide +kernel
theorem dL_law_1161 : decode cL_law 1161 = .ok (.iload_n 3, 1) := by decide +kernel
theorem dL_law_1162 : decode cL_law 1162 = .ok (.iconst 1, 1) := by decide +kernel
theorem dL_law_1163 : decode cL_law 1163 = .ok (.iadd, 1) := by decide +kernel
theorem dL_law_1164 : decode cL_law 1164 = .ok (.iaload, 1) := by decide +kernel
theorem dL_law_1165 : decode cL_law 1165 = .ok (.aload_n 0, 1) := by decide +kernel
theorem dL_law_1166 : decode cL_law 1166 = .ok (.iload_n 3, 1) := by decide +kernel
theorem dL_law_1167 : decode cL_law 1167 = .ok (.iconst 2, 1) := by decide +kernel
theorem dL_law_1168 : decode cL_law 1168 = .ok (.iadd, 1) := by decide +kernel
theorem dL_law_1169 : decode cL_law 1169 = .ok (.iaload, 1) := by decide +kernel
theorem dL_law_1170 : decode cL_law 1170 = .ok (.ifCond .eq 7, 3) := by decide +kernel
theorem dL_law_1173 : decode cL_law 1173 = .ok (.iconst 1, 1) := by decide +kernel
theorem dL_law_1174 : decode cL_law 1174 = .ok (.goto 4, 3) := by decide +kernel
theorem dL_law_1177 : decode cL_law 1177 = .ok (.iconst 0, 1) := by decide +kernel
theorem dL_law_1178 : decode cL_law 1178 = .ok (.invokevirtual 118, 3) := by decide +kernel
theorem dL_law_1181 : decode cL_law 1181 = .ok (.aload_n 2, 1) := by decide +kernel
theorem dL_law_1182 : decode cL_law 1182 = .ok (.aload_n 0, 1) := by decide +kernel
theorem dL_law_1183 : decode cL_law 1183 = .ok (.iload_n 3, 1) := by decide +kernel
theorem dL_law_1184 : decode cL_law 1184 = .ok (.iconst 1, 1) := by decide +kernel
theorem dL_law_1185 : decode cL_law 1185 = .ok (.iadd, 1) := by decide +kernel
theorem dL_law_1186 : decode cL_law 1186 = .ok (.iaload, 1) := by decide +kernel
theorem dL_law_1187 : decode cL_law 1187 = .ok (.aload_n 0, 1) := by decide +kernel
theorem dL_law_1188 : decode cL_law 1188 = .ok (.iload_n 3, 1) := by decide +kernel
theorem dL_law_1189 : decode cL_law 1189 = .ok (.iconst 2, 1) := by decide +kernel
theorem dL_law_1190 : decode cL_law 1190 = .ok (.iadd, 1) := by decide +kernel
theorem dL_law_1191 : decode cL_law 1191 = .ok (.iaload, 1) := by decide +kernel
theorem dL_law_1192 : decode cL_law 1192 = .ok (.ifCond .eq 7, 3) := by decide +kernel
theorem dL_law_1195 : decode cL_law 1195 = .ok (.iconst 1, 1) := by decide +kernel
theorem dL_law_1196 : decode cL_law 1196 = .ok (.goto 4, 3) := by decide +kernel
theorem dL_law_1199 : decode cL_law 1199 = .ok (.iconst 0, 1) := by decide +kernel
theorem dL_law_1200 : decode cL_law 1200 = .ok (.invokevirtual 122, 3) := by decide +kernel
theorem dL_law_1203 : decode cL_law 1203 = .ok (.if_icmp .eq 187, 3) := by decide +kernel
theorem dL_law_1206 : decode cL_law 1206 = .ok (.iconst 0, 1) := by decide +kernel
theorem dL_law_1207 : decode cL_law 1207 = .ok (.ireturn, 1) := by decide +kernel
theorem dL_law_1208 : decode cL_law 1208 = .ok (.aload_n 1, 1) := by decide +kernel
theorem dL_law_1209 : decode cL_law 1209 = .ok (.aload_n 0, 1) := by decide +kernel
theorem dL_law_1210 : decode cL_law 1210 = .ok (.iload_n 3, 1) := by decide +kernel
theorem dL_law_1211 : decode cL_law 1211 = .ok (.iconst 1, 1) := by decide +kernel
theorem dL_law_1212 : decode cL_law 1212 = .ok (.iadd, 1) := by decide +kernel
theorem dL_law_1213 : decode cL_law 1213 = .ok (.iaload, 1) := by decide +kernel
theorem dL_law_1214 : decode cL_law 1214 = .ok (.aload_n 0, 1) := by decide +kernel
theorem dL_law_1215 : decode cL_law 1215 = .ok (.iload_n 3, 1) := by decide +kernel
theorem dL_law_1216 : decode cL_law 1216 = .ok (.iconst 2, 1) := by decide +kernel
theorem dL_law_1217 : decode cL_law 1217 = .ok (.iadd, 1) := by decide +kernel
theorem dL_law_1218 : decode cL_law 1218 = .ok (.iaload, 1) := by decide +kernel
theorem dL_law_1219 : decode cL_law 1219 = .ok (.aload_n 0, 1) := by decide +kernel
theorem dL_law_1220 : decode cL_law 1220 = .ok (.iload_n 3, 1) := by decide +kernel
theorem dL_law_1221 : decode cL_law 1221 = .ok (.iconst 3, 1) := by decide +kernel
theorem dL_law_1222 : decode cL_law 1222 = .ok (.iadd, 1) := by decide +kernel
theorem dL_law_1223 : decode cL_law 1223 = .ok (.iaload, 1) := by decide +kernel
theorem dL_law_1224 : decode cL_law 1224 = .ok (.invokevirtual 123, 3) := by decide +kernel
theorem dL_law_1227 : decode cL_law 1227 = .ok (.aload_n 2, 1) := by decide +kernel
theorem dL_law_1228 : decode cL_law 1228 = .ok (.aload_n 0, 1) := by decide +kernel
theorem dL_law_1229 : decode cL_law 1229 = .ok (.iload_n 3, 1) := by decide +kernel
theorem dL_law_1230 : decode cL_law 1230 = .ok (.iconst 1, 1) := by decide +kernel
theorem dL_law_1231 : decode cL_law 1231 = .ok (.iadd, 1) := by decide +kernel
theorem dL_law_1232 : decode cL_law 1232 = .ok (.iaload, 1) := by decide +kernel
theorem dL_law_1233 : decode cL_law 1233 = .ok (.aload_n 0, 1) := by decide +kernel
theorem dL_law_1234 : decode cL_law 1234 = .ok (.iload_n 3, 1) := by decide +kernel
theorem dL_law_1235 : decode cL_law 1235 = .ok (.iconst 2, 1) := by decide +kernel
theorem dL_law_1236 : decode cL_law 1236 = .ok (.iadd, 1) := by decide +kernel
theorem dL_law_1237 : decode cL_law 1237 = .ok (.iaload, 1) := by decide +kernel
theorem dL_law_1238 : decode cL_law 1238 = .ok (.aload_n 0, 1) := by decide +kernel
theorem dL_law_1239 : decode cL_law 1239 = .ok (.iload_n 3, 1) := by decide +kernel
theorem dL_law_1240 : decode cL_law 1240 = .ok (.iconst 3, 1) := by decide +kernel
theorem dL_law_1241 : decode cL_law 1241 = .ok (.iadd, 1) := by decide +kernel
theorem dL_law_1242 : decode cL_law 1242 = .ok (.iaload, 1) := by decide +kernel
theorem dL_law_1243 : decode cL_law 1243 = .ok (.invokevirtual 126, 3) := by decide +kernel
theorem dL_law_1246 : decode cL_law 1246 = .ok (.if_icmp .eq 144, 3) := by decide +kernel
theorem dL_law_1249 : decode cL_law 1249 = .ok (.iconst 0, 1) := by decide +kernel
theorem dL_law_1250 : decode cL_law 1250 = .ok (.ireturn, 1) := by decide +kernel
theorem dL_law_1251 : decode cL_law 1251 = .ok (.aload_n 1, 1) := by decide +kernel
theorem dL_law_1252 : decode cL_law 1252 = .ok (.aload_n 0, 1) := by decide +kernel
theorem dL_law_1253 : decode cL_law 1253 = .ok (.iload_n 3, 1) := by decide +kernel
theorem dL_law_1254 : decode cL_law 1254 = .ok (.iconst 1, 1) := by decide +kernel
theorem dL_law_1255 : decode cL_law 1255 = .ok (.iadd, 1) := by decide +kernel
theorem dL_law_1256 : decode cL_law 1256 = .ok (.iaload, 1) := by decide +kernel
theorem dL_law_1257 : decode cL_law 1257 = .ok (.aload_n 0, 1) := by decide +kernel
theorem dL_law_1258 : decode cL_law 1258 = .ok (.iload_n 3, 1) := by decide +kernel
theorem dL_law_1259 : decode cL_law 1259 = .ok (.iconst 2, 1) := by decide +kernel
theorem dL_law_1260 : decode cL_law 1260 = .ok (.iadd, 1) := by decide +kernel
theorem dL_law_1261 : decode cL_law 1261 = .ok (.iaload, 1) := by decide +kernel
theorem dL_law_1262 : decode cL_law 1262 = .ok (.aload_n 0, 1) := by decide +kernel
theorem dL_law_1263 : decode cL_law 1263 = .ok (.iload_n 3, 1) := by decide +kernel
theorem dL_law_1264 : decode cL_law 1264 = .ok (.iconst 3, 1) := by decide +kernel
theorem dL_law_1265 : decode cL_law 1265 = .ok (.iadd, 1) := by decide +kernel
theorem dL_law_1266 : decode cL_law 1266 = .ok (.iaload, 1) := by decide +kernel
theorem dL_law_1267 : decode cL_law 1267 = .ok (.aload_n 0, 1) := by decide +kernel
theorem dL_law_1268 : decode cL_law 1268 = .ok (.iload_n 3, 1) := by decide +kernel
theorem dL_law_1269 : decode cL_law 1269 = .ok (.iconst 4, 1) := by decide +kernel
theorem dL_law_1270 : decode cL_law 1270 = .ok (.iadd, 1) := by decide +kernel
theorem dL_law_1271 : decode cL_law 1271 = .ok (.iaload, 1) := by decide +kernel
theorem dL_law_1272 : decode cL_law 1272 = .ok (.ifCond .eq 7, 3) := by decide +kernel
theorem dL_law_1275 : decode cL_law 1275 = .ok (.iconst 1, 1) := by decide +kernel
theorem dL_law_1276 : decode cL_law 1276 = .ok (.goto 4, 3) := by decide +kernel
theorem dL_law_1279 : decode cL_law 1279 = .ok (.iconst 0, 1) := by decide +kernel
theorem dL_law_1280 : decode cL_law 1280 = .ok (.invokevirtual 127, 3) := by decide +kernel
theorem dL_law_1283 : decode cL_law 1283 = .ok (.aload_n 2, 1) := by decide +kernel
