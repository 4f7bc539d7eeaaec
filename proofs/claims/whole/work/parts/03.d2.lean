theorem dX9_rounds_60 : decode cX9_rounds 60 = .ok (.aload_n 0, 1) := by decide +kernel
theorem dX9_rounds_61 : decode cX9_rounds 61 = .ok (.getfield 44, 3) := by decide +kernel
theorem dX9_rounds_64 : decode cX9_rounds 64 = .ok (.invokevirtual 184, 3) := by decide +kernel
theorem dX9_rounds_67 : decode cX9_rounds 67 = .ok (.if_icmp .ge 23, 3) := by decide +kernel
theorem dX9_rounds_70 : decode cX9_rounds 70 = .ok (.iload 4, 2) := by decide +kernel
theorem dX9_rounds_72 : decode cX9_rounds 72 = .ok (.bipush 6, 2) := by decide +kernel
theorem dX9_rounds_74 : decode cX9_rounds 74 = .ok (.if_icmp .ge 16, 3) := by decide +kernel
theorem dX9_rounds_77 : decode cX9_rounds 77 = .ok (.aload_n 0, 1) := by decide +kernel
theorem dX9_rounds_78 : decode cX9_rounds 78 = .ok (.getfield 44, 3) := by decide +kernel
theorem dX9_rounds_81 : decode cX9_rounds 81 = .ok (.getfield 187, 3) := by decide +kernel
theorem dX9_rounds_84 : decode cX9_rounds 84 = .ok (.iload 4, 2) := by decide +kernel
theorem dX9_rounds_86 : decode cX9_rounds 86 = .ok (.iaload, 1) := by decide +kernel
theorem dX9_rounds_87 : decode cX9_rounds 87 = .ok (.goto 4, 3) := by decide +kernel
theorem dX9_rounds_90 : decode cX9_rounds 90 = .ok (.iconst (-1), 1) := by decide +kernel
theorem dX9_rounds_91 : decode cX9_rounds 91 = .ok (.ireturn, 1) := by decide +kernel
theorem dX9_rounds_92 : decode cX9_rounds 92 = .ok (.aload_n 3, 1) := by decide +kernel
theorem dX9_rounds_93 : decode cX9_rounds 93 = .ok (.getfield 190, 3) := by decide +kernel
theorem dX9_rounds_96 : decode cX9_rounds 96 = .ok (.ifCond .ne 5, 3) := by decide +kernel
theorem dX9_rounds_99 : decode cX9_rounds 99 = .ok (.iconst (-1), 1) := by decide +kernel
theorem dX9_rounds_100 : decode cX9_rounds 100 = .ok (.ireturn, 1) := by decide +kernel
theorem dX9_rounds_101 : decode cX9_rounds 101 = .ok (.iload_n 2, 1) := by decide +kernel
theorem dX9_rounds_102 : decode cX9_rounds 102 = .ok (.tableswitch 52 1 3 #[26, 36, 44], 26) := by decide +kernel
theorem dX9_rounds_128 : decode cX9_rounds 128 = .ok (.aload_n 0, 1) := by decide +kernel
theorem dX9_rounds_129 : decode cX9_rounds 129 = .ok (.getfield 44, 3) := by decide +kernel
theorem dX9_rounds_132 : decode cX9_rounds 132 = .ok (.ldc 157, 2) := by decide +kernel
theorem dX9_rounds_134 : decode cX9_rounds 134 = .ok (.invokevirtual 193, 3) := by decide +kernel
theorem dX9_rounds_137 : decode cX9_rounds 137 = .ok (.ireturn, 1) := by decide +kernel
theorem dX9_rounds_138 : decode cX9_rounds 138 = .ok (.aload_n 0, 1) := by decide +kernel
theorem dX9_rounds_139 : decode cX9_rounds 139 = .ok (.getfield 44, 3) := by decide +kernel
theorem dX9_rounds_142 : decode cX9_rounds 142 = .ok (.invokevirtual 196, 3) := by decide +kernel
theorem dX9_rounds_145 : decode cX9_rounds 145 = .ok (.ireturn, 1) := by decide +kernel
theorem dX9_rounds_146 : decode cX9_rounds 146 = .ok (.aload_n 0, 1) := by decide +kernel
theorem dX9_rounds_147 : decode cX9_rounds 147 = .ok (.getfield 44, 3) := by decide +kernel
theorem dX9_rounds_150 : decode cX9_rounds 150 = .ok (.invokevirtual 199, 3) := by decide +kernel
theorem dX9_rounds_153 : decode cX9_rounds 153 = .ok (.ireturn, 1) := by decide +kernel
theorem dX9_rounds_154 : decode cX9_rounds 154 = .ok (.iload_n 2, 1) := by decide +kernel
theorem dX9_rounds_155 : decode cX9_rounds 155 = .ok (.bipush 20, 2) := by decide +kernel
theorem dX9_rounds_157 : decode cX9_rounds 157 = .ok (.if_icmp .lt 18, 3) := by decide +kernel
theorem dX9_rounds_160 : decode cX9_rounds 160 = .ok (.iload_n 2, 1) := by decide +kernel
theorem dX9_rounds_161 : decode cX9_rounds 161 = .ok (.bipush 30, 2) := by decide +kernel
theorem dX9_rounds_163 : decode cX9_rounds 163 = .ok (.if_icmp .ge 12, 3) := by decide +kernel
theorem dX9_rounds_166 : decode cX9_rounds 166 = .ok (.iload 4, 2) := by decide +kernel
theorem dX9_rounds_168 : decode cX9_rounds 168 = .ok (.aload_n 3, 1) := by decide +kernel
theorem dX9_rounds_169 : decode cX9_rounds 169 = .ok (.getfield 190, 3) := by decide +kernel
theorem dX9_rounds_172 : decode cX9_rounds 172 = .ok (.if_icmp .lt 5, 3) := by decide +kernel
theorem dX9_rounds_175 : decode cX9_rounds 175 = .ok (.iconst (-1), 1) := by decide +kernel
theorem dX9_rounds_176 : decode cX9_rounds 176 = .ok (.ireturn, 1) := by decide +kernel
theorem dX9_rounds_177 : decode cX9_rounds 177 = .ok (.aload_n 0, 1) := by decide +kernel
theorem dX9_rounds_178 : decode cX9_rounds 178 = .ok (.getfield 44, 3) := by decide +kernel
theorem dX9_rounds_181 : decode cX9_rounds 181 = .ok (.ldc 157, 2) := by decide +kernel
theorem dX9_rounds_183 : decode cX9_rounds 183 = .ok (.invokevirtual 193, 3) := by decide +kernel
theorem dX9_rounds_186 : decode cX9_rounds 186 = .ok (.pop, 1) := by decide +kernel
theorem dX9_rounds_187 : decode cX9_rounds 187 = .ok (.aload_n 0, 1) := by decide +kernel
theorem dX9_rounds_188 : decode cX9_rounds 188 = .ok (.getfield 44, 3) := by decide +kernel
theorem dX9_rounds_191 : decode cX9_rounds 191 = .ok (.getfield 187, 3) := by decide +kernel
theorem dX9_rounds_194 : decode cX9_rounds 194 = .ok (.iload 4, 2) := by decide +kernel
theorem dX9_rounds_196 : decode cX9_rounds 196 = .ok (.iaload, 1) := by decide +kernel
theorem dX9_rounds_197 : decode cX9_rounds 197 = .ok (.ireturn, 1) := by decide +kernel
theorem dX9_cloth_0 : decode cX9_cloth 0 = .ok (.iload_n 1, 1) := by decide +kernel
theorem dX9_cloth_1 : decode cX9_cloth 1 = .ok (.iload_n 2, 1) := by decide +kernel
theorem dX9_cloth_2 : decode cX9_cloth 2 = .ok (.invokestatic 202, 3) := by decide +kernel
theorem dX9_cloth_5 : decode cX9_cloth 5 = .ok (.ifCond .eq 29, 3) := by decide +kernel
theorem dX9_cloth_8 : decode cX9_cloth 8 = .ok (.iload_n 3, 1) := by decide +kernel
theorem dX9_cloth_9 : decode cX9_cloth 9 = .ok (.invokestatic 206, 3) := by decide +kernel
theorem dX9_cloth_12 : decode cX9_cloth 12 = .ok (.ifCond .eq 22, 3) := by decide +kernel
theorem dX9_cloth_15 : decode cX9_cloth 15 = .ok (.iload 4, 2) := by decide +kernel
theorem dX9_cloth_17 : decode cX9_cloth 17 = .ok (.invokestatic 206, 3) := by decide +kernel
theorem dX9_cloth_20 : decode cX9_cloth 20 = .ok (.ifCond .eq 14, 3) := by decide +kernel
theorem dX9_cloth_23 : decode cX9_cloth 23 = .ok (.iload 5, 2) := by decide +kernel
theorem dX9_cloth_25 : decode cX9_cloth 25 = .ok (.ifCond .lt 9, 3) := by decide +kernel
theorem dX9_cloth_28 : decode cX9_cloth 28 = .ok (.iload 5, 2) := by decide +kernel
theorem dX9_cloth_30 : decode cX9_cloth 30 = .ok (.iconst 2, 1) := by decide +kernel
theorem dX9_cloth_31 : decode cX9_cloth 31 = .ok (.if_icmp .le 7, 3) := by decide +kernel
theorem dX9_cloth_34 : decode cX9_cloth 34 = .ok (.ldc2_w 110, 3) := by decide +kernel
theorem dX9_cloth_37 : decode cX9_cloth 37 = .ok (.lreturn, 1) := by decide +kernel
theorem dX9_cloth_38 : decode cX9_cloth 38 = .ok (.ldc2_w 209, 3) := by decide +kernel
theorem dX9_cloth_41 : decode cX9_cloth 41 = .ok (.bipush 10, 2) := by decide +kernel
theorem dX9_cloth_43 : decode cX9_cloth 43 = .ok (.iload_n 1, 1) := by decide +kernel
theorem dX9_cloth_44 : decode cX9_cloth 44 = .ok (.invokestatic 211, 3) := by decide +kernel
theorem dX9_cloth_47 : decode cX9_cloth 47 = .ok (.lmul, 1) := by decide +kernel
theorem dX9_cloth_48 : decode cX9_cloth 48 = .ok (.lstore 6, 2) := by decide +kernel
theorem dX9_cloth_50 : decode cX9_cloth 50 = .ok (.iconst 0, 1) := by decide +kernel
theorem dX9_cloth_51 : decode cX9_cloth 51 = .ok (.istore 8, 2) := by decide +kernel
theorem dX9_cloth_53 : decode cX9_cloth 53 = .ok (.iconst 0, 1) := by decide +kernel
theorem dX9_cloth_54 : decode cX9_cloth 54 = .ok (.istore 9, 2) := by decide +kernel
theorem dX9_cloth_56 : decode cX9_cloth 56 = .ok (.iload 9, 2) := by decide +kernel
theorem dX9_cloth_58 : decode cX9_cloth 58 = .ok (.iload_n 1, 1) := by decide +kernel
theorem dX9_cloth_59 : decode cX9_cloth 59 = .ok (.if_icmp .gt 79, 3) := by decide +kernel
theorem dX9_cloth_62 : decode cX9_cloth 62 = .ok (.iload_n 3, 1) := by decide +kernel
theorem dX9_cloth_63 : decode cX9_cloth 63 = .ok (.iload 9, 2) := by decide +kernel
theorem dX9_cloth_65 : decode cX9_cloth 65 = .ok (.imul, 1) := by decide +kernel
theorem dX9_cloth_66 : decode cX9_cloth 66 = .ok (.i2l, 1) := by decide +kernel
theorem dX9_cloth_67 : decode cX9_cloth 67 = .ok (.bipush 10, 2) := by decide +kernel
theorem dX9_cloth_69 : decode cX9_cloth 69 = .ok (.iload_n 1, 1) := by decide +kernel
theorem dX9_cloth_70 : decode cX9_cloth 70 = .ok (.invokestatic 211, 3) := by decide +kernel
theorem dX9_cloth_73 : decode cX9_cloth 73 = .ok (.lmul, 1) := by decide +kernel
theorem dX9_cloth_74 : decode cX9_cloth 74 = .ok (.lstore 10, 2) := by decide +kernel
theorem dX9_cloth_76 : decode cX9_cloth 76 = .ok (.iload 9, 2) := by decide +kernel
theorem dX9_cloth_78 : decode cX9_cloth 78 = .ok (.iconst 1, 1) := by decide +kernel
theorem dX9_cloth_79 : decode cX9_cloth 79 = .ok (.iadd, 1) := by decide +kernel
theorem dX9_cloth_80 : decode cX9_cloth 80 = .ok (.istore 12, 2) := by decide +kernel
theorem dX9_cloth_82 : decode cX9_cloth 82 = .ok (.iload 12, 2) := by decide +kernel
theorem dX9_cloth_84 : decode cX9_cloth 84 = .ok (.iload_n 1, 1) := by decide +kernel
theorem dX9_cloth_85 : decode cX9_cloth 85 = .ok (.if_icmp .gt 31, 3) := by decide +kernel
theorem dX9_cloth_88 : decode cX9_cloth 88 = .ok (.lload 10, 2) := by decide +kernel
theorem dX9_cloth_90 : decode cX9_cloth 90 = .ok (.iload 4, 2) := by decide +kernel
theorem dX9_cloth_92 : decode cX9_cloth 92 = .ok (.iload 12, 2) := by decide +kernel
theorem dX9_cloth_94 : decode cX9_cloth 94 = .ok (.iload 9, 2) := by decide +kernel
theorem dX9_cloth_96 : decode cX9_cloth 96 = .ok (.isub, 1) := by decide +kernel
theorem dX9_cloth_97 : decode cX9_cloth 97 = .ok (.imul, 1) := by decide +kernel
theorem dX9_cloth_98 : decode cX9_cloth 98 = .ok (.i2l, 1) := by decide +kernel
theorem dX9_cloth_99 : decode cX9_cloth 99 = .ok (.iload_n 1, 1) := by decide +kernel
theorem dX9_cloth_100 : decode cX9_cloth 100 = .ok (.iload_n 2, 1) := by decide +kernel
theorem dX9_cloth_101 : decode cX9_cloth 101 = .ok (.iload 12, 2) := by decide +kernel
theorem dX9_cloth_103 : decode cX9_cloth 103 = .ok (.invokestatic 215, 3) := by decide +kernel
theorem dX9_cloth_106 : decode cX9_cloth 106 = .ok (.lmul, 1) := by decide +kernel
theorem dX9_cloth_107 : decode cX9_cloth 107 = .ok (.ladd, 1) := by decide +kernel
theorem dX9_cloth_108 : decode cX9_cloth 108 = .ok (.lstore 10, 2) := by decide +kernel
theorem dX9_cloth_110 : decode cX9_cloth 110 = .ok (.iinc 12 1, 3) := by decide +kernel
theorem dX9_cloth_113 : decode cX9_cloth 113 = .ok (.goto (-31), 3) := by decide +kernel
theorem dX9_cloth_116 : decode cX9_cloth 116 = .ok (.lload 10, 2) := by decide +kernel
theorem dX9_cloth_118 : decode cX9_cloth 118 = .ok (.lload 6, 2) := by decide +kernel
theorem dX9_cloth_120 : decode cX9_cloth 120 = .ok (.lcmp, 1) := by decide +kernel
theorem dX9_cloth_121 : decode cX9_cloth 121 = .ok (.ifCond .ge 11, 3) := by decide +kernel
theorem dX9_cloth_124 : decode cX9_cloth 124 = .ok (.lload 10, 2) := by decide +kernel
theorem dX9_cloth_126 : decode cX9_cloth 126 = .ok (.lstore 6, 2) := by decide +kernel
theorem dX9_cloth_128 : decode cX9_cloth 128 = .ok (.iload 9, 2) := by decide +kernel
theorem dX9_cloth_130 : decode cX9_cloth 130 = .ok (.istore 8, 2) := by decide +kernel
theorem dX9_cloth_132 : decode cX9_cloth 132 = .ok (.iinc 9 1, 3) := by decide +kernel
theorem dX9_cloth_135 : decode cX9_cloth 135 = .ok (.goto (-79), 3) := by decide +kernel
theorem dX9_cloth_138 : decode cX9_cloth 138 = .ok (.iload 5, 2) := by decide +kernel
theorem dX9_cloth_140 : decode cX9_cloth 140 = .ok (.ifCond .ne 9, 3) := by decide +kernel
theorem dX9_cloth_143 : decode cX9_cloth 143 = .ok (.iload 8, 2) := by decide +kernel
theorem dX9_cloth_145 : decode cX9_cloth 145 = .ok (.i2l, 1) := by decide +kernel
theorem dX9_cloth_146 : decode cX9_cloth 146 = .ok (.goto 25, 3) := by decide +kernel
theorem dX9_cloth_149 : decode cX9_cloth 149 = .ok (.lload 6, 2) := by decide +kernel
theorem dX9_cloth_151 : decode cX9_cloth 151 = .ok (.bipush 10, 2) := by decide +kernel
theorem dX9_cloth_153 : decode cX9_cloth 153 = .ok (.iload_n 1, 1) := by decide +kernel
theorem dX9_cloth_154 : decode cX9_cloth 154 = .ok (.invokestatic 211, 3) := by decide +kernel
theorem dX9_cloth_157 : decode cX9_cloth 157 = .ok (.iload 5, 2) := by decide +kernel
theorem dX9_cloth_159 : decode cX9_cloth 159 = .ok (.iconst 2, 1) := by decide +kernel
theorem dX9_cloth_160 : decode cX9_cloth 160 = .ok (.if_icmp .ne 7, 3) := by decide +kernel
theorem dX9_cloth_163 : decode cX9_cloth 163 = .ok (.iconst 1, 1) := by decide +kernel
theorem dX9_cloth_164 : decode cX9_cloth 164 = .ok (.goto 4, 3) := by decide +kernel
theorem dX9_cloth_167 : decode cX9_cloth 167 = .ok (.iconst 0, 1) := by decide +kernel
theorem dX9_cloth_168 : decode cX9_cloth 168 = .ok (.invokestatic 219, 3) := by decide +kernel
theorem dX9_cloth_171 : decode cX9_cloth 171 = .ok (.lreturn, 1) := by decide +kernel
theorem dX9_fact_0 : decode cX9_fact 0 = .ok (.aload_n 0, 1) := by decide +kernel
theorem dX9_fact_1 : decode cX9_fact 1 = .ok (.iload_n 1, 1) := by decide +kernel
theorem dX9_fact_2 : decode cX9_fact 2 = .ok (.invokevirtual 223, 3) := by decide +kernel
theorem dX9_fact_5 : decode cX9_fact 5 = .ok (.astore 4, 2) := by decide +kernel
theorem dX9_fact_7 : decode cX9_fact 7 = .ok (.aload 4, 2) := by decide +kernel
theorem dX9_fact_9 : decode cX9_fact 9 = .ok (.ifnonnull 8, 3) := by decide +kernel
theorem dX9_fact_12 : decode cX9_fact 12 = .ok (.bipush (-2), 2) := by decide +kernel
theorem dX9_fact_14 : decode cX9_fact 14 = .ok (.goto 10, 3) := by decide +kernel
theorem dX9_fact_17 : decode cX9_fact 17 = .ok (.aload 4, 2) := by decide +kernel
theorem dX9_fact_19 : decode cX9_fact 19 = .ok (.iload_n 2, 1) := by decide +kernel
theorem dX9_fact_20 : decode cX9_fact 20 = .ok (.iload_n 3, 1) := by decide +kernel
theorem dX9_fact_21 : decode cX9_fact 21 = .ok (.invokevirtual 227, 3) := by decide +kernel
theorem dX9_fact_24 : decode cX9_fact 24 = .ok (.ireturn, 1) := by decide +kernel
theorem dX9_fits_0 : decode cX9_fits 0 = .ok (.aload_n 0, 1) := by decide +kernel
theorem dX9_fits_1 : decode cX9_fits 1 = .ok (.iload_n 1, 1) := by decide +kernel
theorem dX9_fits_2 : decode cX9_fits 2 = .ok (.iload_n 2, 1) := by decide +kernel
theorem dX9_fits_3 : decode cX9_fits 3 = .ok (.invokevirtual 230, 3) := by decide +kernel
theorem dX9_fits_6 : decode cX9_fits 6 = .ok (.astore 5, 2) := by decide +kernel
theorem dX9_fits_8 : decode cX9_fits 8 = .ok (.aload 5, 2) := by decide +kernel
theorem dX9_fits_10 : decode cX9_fits 10 = .ok (.ifnonnull 7, 3) := by decide +kernel
theorem dX9_fits_13 : decode cX9_fits 13 = .ok (.ldc2_w 110, 3) := by decide +kernel
theorem dX9_fits_16 : decode cX9_fits 16 = .ok (.lreturn, 1) := by decide +kernel
theorem dX9_fits_17 : decode cX9_fits 17 = .ok (.iload_n 3, 1) := by decide +kernel
theorem dX9_fits_18 : decode cX9_fits 18 = .ok (.iconst (-1), 1) := by decide +kernel
theorem dX9_fits_19 : decode cX9_fits 19 = .ok (.if_icmp .ne 12, 3) := by decide +kernel
theorem dX9_fits_22 : decode cX9_fits 22 = .ok (.aload_n 0, 1) := by decide +kernel
theorem dX9_fits_23 : decode cX9_fits 23 = .ok (.getfield 37, 3) := by decide +kernel
theorem dX9_fits_26 : decode cX9_fits 26 = .ok (.invokevirtual 116, 3) := by decide +kernel
theorem dX9_fits_29 : decode cX9_fits 29 = .ok (.i2l, 1) := by decide +kernel
theorem dX9_fits_30 : decode cX9_fits 30 = .ok (.lreturn, 1) := by decide +kernel
theorem dX9_fits_31 : decode cX9_fits 31 = .ok (.aload 5, 2) := by decide +kernel
theorem dX9_fits_33 : decode cX9_fits 33 = .ok (.iload_n 3, 1) := by decide +kernel
theorem dX9_fits_34 : decode cX9_fits 34 = .ok (.invokevirtual 153, 3) := by decide +kernel
theorem dX9_fits_37 : decode cX9_fits 37 = .ok (.ifCond .eq 27, 3) := by decide +kernel
theorem dX9_fits_40 : decode cX9_fits 40 = .ok (.aload 5, 2) := by decide +kernel
theorem dX9_fits_42 : decode cX9_fits 42 = .ok (.iload 4, 2) := by decide +kernel
theorem dX9_fits_44 : decode cX9_fits 44 = .ok (.invokevirtual 153, 3) := by decide +kernel
theorem dX9_fits_47 : decode cX9_fits 47 = .ok (.ifCond .eq 17, 3) := by decide +kernel
theorem dX9_fits_50 : decode cX9_fits 50 = .ok (.aload_n 0, 1) := by decide +kernel
theorem dX9_fits_51 : decode cX9_fits 51 = .ok (.getfield 37, 3) := by decide +kernel
theorem dX9_fits_54 : decode cX9_fits 54 = .ok (.iload_n 3, 1) := by decide +kernel
theorem dX9_fits_55 : decode cX9_fits 55 = .ok (.iload 4, 2) := by decide +kernel
theorem dX9_fits_57 : decode cX9_fits 57 = .ok (.invokevirtual 234, 3) := by decide +kernel
theorem dX9_fits_60 : decode cX9_fits 60 = .ok (.i2l, 1) := by decide +kernel
theorem dX9_fits_61 : decode cX9_fits 61 = .ok (.goto 6, 3) := by decide +kernel
theorem dX9_fits_64 : decode cX9_fits 64 = .ok (.ldc2_w 110, 3) := by decide +kernel
theorem dX9_fits_67 : decode cX9_fits 67 = .ok (.lreturn, 1) := by decide +kernel
theorem dX9_sure_0 : decode cX9_sure 0 = .ok (.aload_n 0, 1) := by decide +kernel
theorem dX9_sure_1 : decode cX9_sure 1 = .ok (.iload_n 1, 1) := by decide +kernel
theorem dX9_sure_2 : decode cX9_sure 2 = .ok (.iload_n 2, 1) := by decide +kernel
theorem dX9_sure_3 : decode cX9_sure 3 = .ok (.invokevirtual 230, 3) := by decide +kernel
theorem dX9_sure_6 : decode cX9_sure 6 = .ok (.astore 4, 2) := by decide +kernel
theorem dX9_sure_8 : decode cX9_sure 8 = .ok (.aload 4, 2) := by decide +kernel
theorem dX9_sure_10 : decode cX9_sure 10 = .ok (.ifnonnull 5, 3) := by decide +kernel
theorem dX9_sure_13 : decode cX9_sure 13 = .ok (.iconst (-1), 1) := by decide +kernel
theorem dX9_sure_14 : decode cX9_sure 14 = .ok (.ireturn, 1) := by decide +kernel
theorem dX9_sure_15 : decode cX9_sure 15 = .ok (.aload_n 0, 1) := by decide +kernel
theorem dX9_sure_16 : decode cX9_sure 16 = .ok (.getfield 37, 3) := by decide +kernel
theorem dX9_sure_19 : decode cX9_sure 19 = .ok (.invokevirtual 116, 3) := by decide +kernel
theorem dX9_sure_22 : decode cX9_sure 22 = .ok (.istore 5, 2) := by decide +kernel
theorem dX9_sure_24 : decode cX9_sure 24 = .ok (.iload 5, 2) := by decide +kernel
theorem dX9_sure_26 : decode cX9_sure 26 = .ok (.ifCond .ne 5, 3) := by decide +kernel
theorem dX9_sure_29 : decode cX9_sure 29 = .ok (.iconst (-1), 1) := by decide +kernel
theorem dX9_sure_30 : decode cX9_sure 30 = .ok (.ireturn, 1) := by decide +kernel
theorem dX9_sure_31 : decode cX9_sure 31 = .ok (.iload_n 3, 1) := by decide +kernel
theorem dX9_sure_32 : decode cX9_sure 32 = .ok (.iconst (-1), 1) := by decide +kernel
theorem dX9_sure_33 : decode cX9_sure 33 = .ok (.if_icmp .ne 13, 3) := by decide +kernel
theorem dX9_sure_36 : decode cX9_sure 36 = .ok (.aload_n 0, 1) := by decide +kernel
theorem dX9_sure_37 : decode cX9_sure 37 = .ok (.getfield 37, 3) := by decide +kernel
theorem dX9_sure_40 : decode cX9_sure 40 = .ok (.iload 5, 2) := by decide +kernel
theorem dX9_sure_42 : decode cX9_sure 42 = .ok (.invokevirtual 237, 3) := by decide +kernel
theorem dX9_sure_45 : decode cX9_sure 45 = .ok (.ireturn, 1) := by decide +kernel
theorem dX9_sure_46 : decode cX9_sure 46 = .ok (.aload 4, 2) := by decide +kernel
theorem dX9_sure_48 : decode cX9_sure 48 = .ok (.iload_n 3, 1) := by decide +kernel
theorem dX9_sure_49 : decode cX9_sure 49 = .ok (.invokevirtual 153, 3) := by decide +kernel
theorem dX9_sure_52 : decode cX9_sure 52 = .ok (.ifCond .eq 16, 3) := by decide +kernel
theorem dX9_sure_55 : decode cX9_sure 55 = .ok (.aload_n 0, 1) := by decide +kernel
theorem dX9_sure_56 : decode cX9_sure 56 = .ok (.getfield 37, 3) := by decide +kernel
theorem dX9_sure_59 : decode cX9_sure 59 = .ok (.iload_n 3, 1) := by decide +kernel
theorem dX9_sure_60 : decode cX9_sure 60 = .ok (.iload 5, 2) := by decide +kernel
theorem dX9_sure_62 : decode cX9_sure 62 = .ok (.invokevirtual 240, 3) := by decide +kernel
theorem dX9_sure_65 : decode cX9_sure 65 = .ok (.goto 4, 3) := by decide +kernel
theorem dX9_sure_68 : decode cX9_sure 68 = .ok (.iconst (-1), 1) := by decide +kernel
theorem dX9_sure_69 : decode cX9_sure 69 = .ok (.ireturn, 1) := by decide +kernel
theorem dX9_drawn_0 : decode cX9_drawn 0 = .ok (.aload_n 0, 1) := by decide +kernel
theorem dX9_drawn_1 : decode cX9_drawn 1 = .ok (.iload_n 1, 1) := by decide +kernel
theorem dX9_drawn_2 : decode cX9_drawn 2 = .ok (.invokevirtual 84, 3) := by decide +kernel
theorem dX9_drawn_5 : decode cX9_drawn 5 = .ok (.astore 5, 2) := by decide +kernel
theorem dX9_drawn_7 : decode cX9_drawn 7 = .ok (.aload 5, 2) := by decide +kernel
theorem dX9_drawn_9 : decode cX9_drawn 9 = .ok (.ifnull 13, 3) := by decide +kernel
theorem dX9_drawn_12 : decode cX9_drawn 12 = .ok (.iload_n 3, 1) := by decide +kernel
theorem dX9_drawn_13 : decode cX9_drawn 13 = .ok (.ifCond .lt 9, 3) := by decide +kernel
theorem dX9_drawn_16 : decode cX9_drawn 16 = .ok (.iload_n 3, 1) := by decide +kernel
theorem dX9_drawn_17 : decode cX9_drawn 17 = .ok (.bipush 60, 2) := by decide +kernel
theorem dX9_drawn_19 : decode cX9_drawn 19 = .ok (.if_icmp .le 7, 3) := by decide +kernel
theorem dX9_drawn_22 : decode cX9_drawn 22 = .ok (.sipush (-1000), 3) := by decide +kernel
theorem dX9_drawn_25 : decode cX9_drawn 25 = .ok (.ireturn, 1) := by decide +kernel
theorem dX9_drawn_26 : decode cX9_drawn 26 = .ok (.aload_n 0, 1) := by decide +kernel
theorem dX9_drawn_27 : decode cX9_drawn 27 = .ok (.getfield 30, 3) := by decide +kernel
theorem dX9_drawn_30 : decode cX9_drawn 30 = .ok (.aload 5, 2) := by decide +kernel
theorem dX9_drawn_32 : decode cX9_drawn 32 = .ok (.iload_n 2, 1) := by decide +kernel
theorem dX9_drawn_33 : decode cX9_drawn 33 = .ok (.iload_n 3, 1) := by decide +kernel
theorem dX9_drawn_34 : decode cX9_drawn 34 = .ok (.invokevirtual 243, 3) := by decide +kernel
theorem dX9_drawn_37 : decode cX9_drawn 37 = .ok (.aload_n 0, 1) := by decide +kernel
theorem dX9_drawn_38 : decode cX9_drawn 38 = .ok (.getfield 30, 3) := by decide +kernel
theorem dX9_drawn_41 : decode cX9_drawn 41 = .ok (.iload 4, 2) := by decide +kernel
theorem dX9_drawn_43 : decode cX9_drawn 43 = .ok (.invokevirtual 109, 3) := by decide +kernel
theorem dX9_drawn_46 : decode cX9_drawn 46 = .ok (.ireturn, 1) := by decide +kernel
theorem dX9_under_0 : decode cX9_under 0 = .ok (.aload_n 0, 1) := by decide +kernel
theorem dX9_under_1 : decode cX9_under 1 = .ok (.iload_n 1, 1) := by decide +kernel
theorem dX9_under_2 : decode cX9_under 2 = .ok (.invokevirtual 120, 3) := by decide +kernel
theorem dX9_under_5 : decode cX9_under 5 = .ok (.astore 4, 2) := by decide +kernel
theorem dX9_under_7 : decode cX9_under 7 = .ok (.aload 4, 2) := by decide +kernel
theorem dX9_under_9 : decode cX9_under 9 = .ok (.ifnull 12, 3) := by decide +kernel
theorem dX9_under_12 : decode cX9_under 12 = .ok (.aload 4, 2) := by decide +kernel
theorem dX9_under_14 : decode cX9_under 14 = .ok (.iload_n 2, 1) := by decide +kernel
theorem dX9_under_15 : decode cX9_under 15 = .ok (.invokevirtual 153, 3) := by decide +kernel
theorem dX9_under_18 : decode cX9_under 18 = .ok (.ifCond .ne 5, 3) := by decide +kernel
theorem dX9_under_21 : decode cX9_under 21 = .ok (.iconst (-1), 1) := by decide +kernel
theorem dX9_under_22 : decode cX9_under 22 = .ok (.ireturn, 1) := by decide +kernel
theorem dX9_under_23 : decode cX9_under 23 = .ok (.iload_n 3, 1) := by decide +kernel
theorem dX9_under_24 : decode cX9_under 24 = .ok (.lookupswitch 61 #[(0, 28), (1, 35)], 28) := by decide +kernel
theorem dX9_under_52 : decode cX9_under 52 = .ok (.aload 4, 2) := by decide +kernel
theorem dX9_under_54 : decode cX9_under 54 = .ok (.iload_n 2, 1) := by decide +kernel
theorem dX9_under_55 : decode cX9_under 55 = .ok (.invokevirtual 138, 3) := by decide +kernel
theorem dX9_under_58 : decode cX9_under 58 = .ok (.ireturn, 1) := by decide +kernel
theorem dX9_under_59 : decode cX9_under 59 = .ok (.aload 4, 2) := by decide +kernel
theorem dX9_under_61 : decode cX9_under 61 = .ok (.aload 4, 2) := by decide +kernel
theorem dX9_under_63 : decode cX9_under 63 = .ok (.iload_n 2, 1) := by decide +kernel
theorem dX9_under_64 : decode cX9_under 64 = .ok (.invokevirtual 130, 3) := by decide +kernel
theorem dX9_under_67 : decode cX9_under 67 = .ok (.iconst 1, 1) := by decide +kernel
theorem dX9_under_68 : decode cX9_under 68 = .ok (.iload_n 2, 1) := by decide +kernel
theorem dX9_under_69 : decode cX9_under 69 = .ok (.ishl, 1) := by decide +kernel
theorem dX9_under_70 : decode cX9_under 70 = .ok (.ior, 1) := by decide +kernel
theorem dX9_under_71 : decode cX9_under 71 = .ok (.invokevirtual 247, 3) := by decide +kernel
theorem dX9_under_74 : decode cX9_under 74 = .ok (.aload 4, 2) := by decide +kernel
theorem dX9_under_76 : decode cX9_under 76 = .ok (.getfield 150, 3) := by decide +kernel
theorem dX9_under_79 : decode cX9_under 79 = .ok (.invokestatic 250, 3) := by decide +kernel
theorem dX9_under_82 : decode cX9_under 82 = .ok (.iconst 1, 1) := by decide +kernel
theorem dX9_under_83 : decode cX9_under 83 = .ok (.isub, 1) := by decide +kernel
theorem dX9_under_84 : decode cX9_under 84 = .ok (.ireturn, 1) := by decide +kernel
theorem dX9_under_85 : decode cX9_under 85 = .ok (.iconst (-1), 1) := by decide +kernel
theorem dX9_under_86 : decode cX9_under 86 = .ok (.ireturn, 1) := by decide +kernel
theorem dX9_hands_0 : decode cX9_hands 0 = .ok (.aload_n 0, 1) := by decide +kernel
theorem dX9_hands_1 : decode cX9_hands 1 = .ok (.iload_n 1, 1) := by decide +kernel
theorem dX9_hands_2 : decode cX9_hands 2 = .ok (.invokevirtual 120, 3) := by decide +kernel
theorem dX9_hands_5 : decode cX9_hands 5 = .ok (.astore_n 3, 1) := by decide +kernel
theorem dX9_hands_6 : decode cX9_hands 6 = .ok (.aload_n 3, 1) := by decide +kernel
theorem dX9_hands_7 : decode cX9_hands 7 = .ok (.ifnull 13, 3) := by decide +kernel
theorem dX9_hands_10 : decode cX9_hands 10 = .ok (.iload_n 2, 1) := by decide +kernel
theorem dX9_hands_11 : decode cX9_hands 11 = .ok (.iconst 1, 1) := by decide +kernel
theorem dX9_hands_12 : decode cX9_hands 12 = .ok (.if_icmp .lt 8, 3) := by decide +kernel
theorem dX9_hands_15 : decode cX9_hands 15 = .ok (.iload_n 2, 1) := by decide +kernel
theorem dX9_hands_16 : decode cX9_hands 16 = .ok (.iconst 4, 1) := by decide +kernel
theorem dX9_hands_17 : decode cX9_hands 17 = .ok (.if_icmp .le 7, 3) := by decide +kernel
theorem dX9_hands_20 : decode cX9_hands 20 = .ok (.iconst (-1), 1) := by decide +kernel
theorem dX9_hands_21 : decode cX9_hands 21 = .ok (.goto 11, 3) := by decide +kernel
theorem dX9_hands_24 : decode cX9_hands 24 = .ok (.aload_n 0, 1) := by decide +kernel
theorem dX9_hands_25 : decode cX9_hands 25 = .ok (.getfield 37, 3) := by decide +kernel
theorem dX9_hands_28 : decode cX9_hands 28 = .ok (.iload_n 2, 1) := by decide +kernel
theorem dX9_hands_29 : decode cX9_hands 29 = .ok (.invokevirtual 253, 3) := by decide +kernel
theorem dX9_hands_32 : decode cX9_hands 32 = .ok (.ireturn, 1) := by decide +kernel
theorem dX9_spools_0 : decode cX9_spools 0 = .ok (.aload_n 0, 1) := by decide +kernel
theorem dX9_spools_1 : decode cX9_spools 1 = .ok (.iload_n 1, 1) := by decide +kernel
theorem dX9_spools_2 : decode cX9_spools 2 = .ok (.invokevirtual 84, 3) := by decide +kernel
theorem dX9_spools_5 : decode cX9_spools 5 = .ok (.astore_n 3, 1) := by decide +kernel
theorem dX9_spools_6 : decode cX9_spools 6 = .ok (.aload_n 3, 1) := by decide +kernel
theorem dX9_spools_7 : decode cX9_spools 7 = .ok (.ifnull 22, 3) := by decide +kernel
theorem dX9_spools_10 : decode cX9_spools 10 = .ok (.iload_n 2, 1) := by decide +kernel
theorem dX9_spools_11 : decode cX9_spools 11 = .ok (.iconst 1, 1) := by decide +kernel
theorem dX9_spools_12 : decode cX9_spools 12 = .ok (.if_icmp .lt 17, 3) := by decide +kernel
theorem dX9_spools_15 : decode cX9_spools 15 = .ok (.iload_n 2, 1) := by decide +kernel
theorem dX9_spools_16 : decode cX9_spools 16 = .ok (.bipush 60, 2) := by decide +kernel
theorem dX9_spools_18 : decode cX9_spools 18 = .ok (.if_icmp .gt 11, 3) := by decide +kernel
theorem dX9_spools_21 : decode cX9_spools 21 = .ok (.aload_n 3, 1) := by decide +kernel
theorem dX9_spools_22 : decode cX9_spools 22 = .ok (.invokevirtual 256, 3) := by decide +kernel
theorem dX9_spools_25 : decode cX9_spools 25 = .ok (.iload_n 2, 1) := by decide +kernel
theorem dX9_spools_26 : decode cX9_spools 26 = .ok (.if_icmp .le 5, 3) := by decide +kernel
theorem dX9_spools_29 : decode cX9_spools 29 = .ok (.iconst (-1), 1) := by decide +kernel
theorem dX9_spools_30 : decode cX9_spools 30 = .ok (.ireturn, 1) := by decide +kernel
theorem dX9_spools_31 : decode cX9_spools 31 = .ok (.aload_n 0, 1) := by decide +kernel
theorem dX9_spools_32 : decode cX9_spools 32 = .ok (.getfield 37, 3) := by decide +kernel
theorem dX9_spools_35 : decode cX9_spools 35 = .ok (.aload_n 3, 1) := by decide +kernel
theorem dX9_spools_36 : decode cX9_spools 36 = .ok (.invokevirtual 112, 3) := by decide +kernel
theorem dX9_spools_39 : decode cX9_spools 39 = .ok (.iconst 0, 1) := by decide +kernel
theorem dX9_spools_40 : decode cX9_spools 40 = .ok (.istore 4, 2) := by decide +kernel
theorem dX9_spools_42 : decode cX9_spools 42 = .ok (.iconst 0, 1) := by decide +kernel
theorem dX9_spools_43 : decode cX9_spools 43 = .ok (.istore 5, 2) := by decide +kernel
theorem dX9_spools_45 : decode cX9_spools 45 = .ok (.iload 5, 2) := by decide +kernel
theorem dX9_spools_47 : decode cX9_spools 47 = .ok (.iconst 4, 1) := by decide +kernel
theorem dX9_spools_48 : decode cX9_spools 48 = .ok (.if_icmp .ge 28, 3) := by decide +kernel
theorem dX9_spools_51 : decode cX9_spools 51 = .ok (.iload 4, 2) := by decide +kernel
theorem dX9_spools_53 : decode cX9_spools 53 = .ok (.aload_n 0, 1) := by decide +kernel
theorem dX9_spools_54 : decode cX9_spools 54 = .ok (.getfield 37, 3) := by decide +kernel
theorem dX9_spools_57 : decode cX9_spools 57 = .ok (.aload_n 3, 1) := by decide +kernel
theorem dX9_spools_58 : decode cX9_spools 58 = .ok (.iload 5, 2) := by decide +kernel
theorem dX9_spools_60 : decode cX9_spools 60 = .ok (.invokevirtual 259, 3) := by decide +kernel
theorem dX9_spools_63 : decode cX9_spools 63 = .ok (.iload_n 2, 1) := by decide +kernel
theorem dX9_spools_64 : decode cX9_spools 64 = .ok (.invokevirtual 262, 3) := by decide +kernel
theorem dX9_spools_67 : decode cX9_spools 67 = .ok (.iadd, 1) := by decide +kernel
theorem dX9_spools_68 : decode cX9_spools 68 = .ok (.istore 4, 2) := by decide +kernel
theorem dX9_spools_70 : decode cX9_spools 70 = .ok (.iinc 5 1, 3) := by decide +kernel
theorem dX9_spools_73 : decode cX9_spools 73 = .ok (.goto (-28), 3) := by decide +kernel
theorem dX9_spools_76 : decode cX9_spools 76 = .ok (.iload 4, 2) := by decide +kernel
theorem dX9_spools_78 : decode cX9_spools 78 = .ok (.ireturn, 1) := by decide +kernel
theorem dX9_grown_0 : decode cX9_grown 0 = .ok (.aload_n 0, 1) := by decide +kernel
theorem dX9_grown_1 : decode cX9_grown 1 = .ok (.iload_n 1, 1) := by decide +kernel
theorem dX9_grown_2 : decode cX9_grown 2 = .ok (.invokevirtual 84, 3) := by decide +kernel
theorem dX9_grown_5 : decode cX9_grown 5 = .ok (.astore_n 3, 1) := by decide +kernel
theorem dX9_grown_6 : decode cX9_grown 6 = .ok (.aload_n 3, 1) := by decide +kernel
theorem dX9_grown_7 : decode cX9_grown 7 = .ok (.ifnonnull 5, 3) := by decide +kernel
theorem dX9_grown_10 : decode cX9_grown 10 = .ok (.iconst (-1), 1) := by decide +kernel
theorem dX9_grown_11 : decode cX9_grown 11 = .ok (.ireturn, 1) := by decide +kernel
theorem dX9_grown_12 : decode cX9_grown 12 = .ok (.iconst 0, 1) := by decide +kernel
theorem dX9_grown_13 : decode cX9_grown 13 = .ok (.istore 4, 2) := by decide +kernel
theorem dX9_grown_15 : decode cX9_grown 15 = .ok (.iconst 0, 1) := by decide +kernel
theorem dX9_grown_16 : decode cX9_grown 16 = .ok (.istore 5, 2) := by decide +kernel
theorem dX9_grown_18 : decode cX9_grown 18 = .ok (.iload 5, 2) := by decide +kernel
theorem dX9_grown_20 : decode cX9_grown 20 = .ok (.bipush 100, 2) := by decide +kernel
theorem dX9_grown_22 : decode cX9_grown 22 = .ok (.if_icmp .ge 30, 3) := by decide +kernel
theorem dX9_grown_25 : decode cX9_grown 25 = .ok (.iload 4, 2) := by decide +kernel
theorem dX9_grown_27 : decode cX9_grown 27 = .ok (.aload_n 3, 1) := by decide +kernel
theorem dX9_grown_28 : decode cX9_grown 28 = .ok (.getfield 265, 3) := by decide +kernel
theorem dX9_grown_31 : decode cX9_grown 31 = .ok (.iload 5, 2) := by decide +kernel
theorem dX9_grown_33 : decode cX9_grown 33 = .ok (.iaload, 1) := by decide +kernel
theorem dX9_grown_34 : decode cX9_grown 34 = .ok (.iadd, 1) := by decide +kernel
theorem dX9_grown_35 : decode cX9_grown 35 = .ok (.istore 4, 2) := by decide +kernel
theorem dX9_grown_37 : decode cX9_grown 37 = .ok (.iload 4, 2) := by decide +kernel
theorem dX9_grown_39 : decode cX9_grown 39 = .ok (.iload_n 2, 1) := by decide +kernel
theorem dX9_grown_40 : decode cX9_grown 40 = .ok (.if_icmp .lt 6, 3) := by decide +kernel
theorem dX9_grown_43 : decode cX9_grown 43 = .ok (.iload 5, 2) := by decide +kernel
theorem dX9_grown_45 : decode cX9_grown 45 = .ok (.ireturn, 1) := by decide +kernel
theorem dX9_grown_46 : decode cX9_grown 46 = .ok (.iinc 5 1, 3) := by decide +kernel
theorem dX9_grown_49 : decode cX9_grown 49 = .ok (.goto (-31), 3) := by decide +kernel
theorem dX9_grown_52 : decode cX9_grown 52 = .ok (.iconst (-1), 1) := by decide +kernel
theorem dX9_grown_53 : decode cX9_grown 53 = .ok (.ireturn, 1) := by decide +kernel
theorem dX9_home_0 : decode cX9_home 0 = .ok (.aload_n 0, 1) := by decide +kernel
theorem dX9_home_1 : decode cX9_home 1 = .ok (.iload_n 1, 1) := by decide +kernel
theorem dX9_home_2 : decode cX9_home 2 = .ok (.invokevirtual 161, 3) := by decide +kernel
theorem dX9_home_5 : decode cX9_home 5 = .ok (.astore_n 3, 1) := by decide +kernel
theorem dX9_home_6 : decode cX9_home 6 = .ok (.aload_n 3, 1) := by decide +kernel
theorem dX9_home_7 : decode cX9_home 7 = .ok (.ifnull 10, 3) := by decide +kernel
theorem dX9_home_10 : decode cX9_home 10 = .ok (.aload_n 3, 1) := by decide +kernel
theorem dX9_home_11 : decode cX9_home 11 = .ok (.getfield 190, 3) := by decide +kernel
theorem dX9_home_14 : decode cX9_home 14 = .ok (.ifCond .ne 5, 3) := by decide +kernel
theorem dX9_home_17 : decode cX9_home 17 = .ok (.iconst (-1), 1) := by decide +kernel
theorem dX9_home_18 : decode cX9_home 18 = .ok (.ireturn, 1) := by decide +kernel
theorem dX9_home_19 : decode cX9_home 19 = .ok (.ldc 157, 2) := by decide +kernel
theorem dX9_home_21 : decode cX9_home 21 = .ok (.istore 4, 2) := by decide +kernel
theorem dX9_home_23 : decode cX9_home 23 = .ok (.iconst (-1), 1) := by decide +kernel
theorem dX9_home_24 : decode cX9_home 24 = .ok (.istore 5, 2) := by decide +kernel
theorem dX9_home_26 : decode cX9_home 26 = .ok (.iconst 0, 1) := by decide +kernel
theorem dX9_home_27 : decode cX9_home 27 = .ok (.istore 6, 2) := by decide +kernel
theorem dX9_home_29 : decode cX9_home 29 = .ok (.iload 6, 2) := by decide +kernel
theorem dX9_home_31 : decode cX9_home 31 = .ok (.bipush 100, 2) := by decide +kernel
theorem dX9_home_33 : decode cX9_home 33 = .ok (.if_icmp .ge 53, 3) := by decide +kernel
theorem dX9_home_36 : decode cX9_home 36 = .ok (.aload_n 0, 1) := by decide +kernel
theorem dX9_home_37 : decode cX9_home 37 = .ok (.getfield 44, 3) := by decide +kernel
theorem dX9_home_40 : decode cX9_home 40 = .ok (.aload_n 3, 1) := by decide +kernel
theorem dX9_home_41 : decode cX9_home 41 = .ok (.iload 6, 2) := by decide +kernel
theorem dX9_home_43 : decode cX9_home 43 = .ok (.bipush 10, 2) := by decide +kernel
theorem dX9_home_45 : decode cX9_home 45 = .ok (.irem, 1) := by decide +kernel
theorem dX9_home_46 : decode cX9_home 46 = .ok (.iload 6, 2) := by decide +kernel
theorem dX9_home_48 : decode cX9_home 48 = .ok (.bipush 10, 2) := by decide +kernel
theorem dX9_home_50 : decode cX9_home 50 = .ok (.idiv, 1) := by decide +kernel
theorem dX9_home_51 : decode cX9_home 51 = .ok (.invokevirtual 174, 3) := by decide +kernel
theorem dX9_home_54 : decode cX9_home 54 = .ok (.aload_n 0, 1) := by decide +kernel
theorem dX9_home_55 : decode cX9_home 55 = .ok (.getfield 44, 3) := by decide +kernel
theorem dX9_home_58 : decode cX9_home 58 = .ok (.iload 4, 2) := by decide +kernel
theorem dX9_home_60 : decode cX9_home 60 = .ok (.invokevirtual 193, 3) := by decide +kernel
theorem dX9_home_63 : decode cX9_home 63 = .ok (.istore 7, 2) := by decide +kernel
theorem dX9_home_65 : decode cX9_home 65 = .ok (.iload 7, 2) := by decide +kernel
theorem dX9_home_67 : decode cX9_home 67 = .ok (.iload 4, 2) := by decide +kernel
theorem dX9_home_69 : decode cX9_home 69 = .ok (.if_icmp .ge 11, 3) := by decide +kernel
theorem dX9_home_72 : decode cX9_home 72 = .ok (.iload 7, 2) := by decide +kernel
theorem dX9_home_74 : decode cX9_home 74 = .ok (.istore 4, 2) := by decide +kernel
theorem dX9_home_76 : decode cX9_home 76 = .ok (.iload 6, 2) := by decide +kernel
theorem dX9_home_78 : decode cX9_home 78 = .ok (.istore 5, 2) := by decide +kernel
theorem dX9_home_80 : decode cX9_home 80 = .ok (.iinc 6 1, 3) := by decide +kernel
theorem dX9_home_83 : decode cX9_home 83 = .ok (.goto (-54), 3) := by decide +kernel
theorem dX9_home_86 : decode cX9_home 86 = .ok (.iload_n 2, 1) := by decide +kernel
theorem dX9_home_87 : decode cX9_home 87 = .ok (.ifCond .eq 8, 3) := by decide +kernel
theorem dX9_home_90 : decode cX9_home 90 = .ok (.iload 5, 2) := by decide +kernel
theorem dX9_home_92 : decode cX9_home 92 = .ok (.goto 5, 3) := by decide +kernel
theorem dX9_home_95 : decode cX9_home 95 = .ok (.iload 4, 2) := by decide +kernel
theorem dX9_home_97 : decode cX9_home 97 = .ok (.ireturn, 1) := by decide +kernel
theorem dX9_way_0 : decode cX9_way 0 = .ok (.aload_n 0, 1) := by decide +kernel
theorem dX9_way_1 : decode cX9_way 1 = .ok (.iload_n 1, 1) := by decide +kernel
theorem dX9_way_2 : decode cX9_way 2 = .ok (.invokevirtual 161, 3) := by decide +kernel
theorem dX9_way_5 : decode cX9_way 5 = .ok (.astore 4, 2) := by decide +kernel
theorem dX9_way_7 : decode cX9_way 7 = .ok (.aload 4, 2) := by decide +kernel
theorem dX9_way_9 : decode cX9_way 9 = .ok (.ifnull 21, 3) := by decide +kernel
theorem dX9_way_12 : decode cX9_way 12 = .ok (.aload 4, 2) := by decide +kernel
theorem dX9_way_14 : decode cX9_way 14 = .ok (.iload_n 2, 1) := by decide +kernel
theorem dX9_way_15 : decode cX9_way 15 = .ok (.invokevirtual 268, 3) := by decide +kernel
theorem dX9_way_18 : decode cX9_way 18 = .ok (.ifCond .eq 12, 3) := by decide +kernel
theorem dX9_way_21 : decode cX9_way 21 = .ok (.aload 4, 2) := by decide +kernel
theorem dX9_way_23 : decode cX9_way 23 = .ok (.iload_n 3, 1) := by decide +kernel
theorem dX9_way_24 : decode cX9_way 24 = .ok (.invokevirtual 268, 3) := by decide +kernel
theorem dX9_way_27 : decode cX9_way 27 = .ok (.ifCond .ne 7, 3) := by decide +kernel
theorem dX9_way_30 : decode cX9_way 30 = .ok (.iconst (-1), 1) := by decide +kernel
theorem dX9_way_31 : decode cX9_way 31 = .ok (.goto 23, 3) := by decide +kernel
theorem dX9_way_34 : decode cX9_way 34 = .ok (.aload 4, 2) := by decide +kernel
theorem dX9_way_36 : decode cX9_way 36 = .ok (.aload 4, 2) := by decide +kernel
theorem dX9_way_38 : decode cX9_way 38 = .ok (.getfield 271, 3) := by decide +kernel
theorem dX9_way_41 : decode cX9_way 41 = .ok (.iload_n 2, 1) := by decide +kernel
theorem dX9_way_42 : decode cX9_way 42 = .ok (.iaload, 1) := by decide +kernel
theorem dX9_way_43 : decode cX9_way 43 = .ok (.aload 4, 2) := by decide +kernel
theorem dX9_way_45 : decode cX9_way 45 = .ok (.getfield 274, 3) := by decide +kernel
theorem dX9_way_48 : decode cX9_way 48 = .ok (.iload_n 2, 1) := by decide +kernel
theorem dX9_way_49 : decode cX9_way 49 = .ok (.iaload, 1) := by decide +kernel
theorem dX9_way_50 : decode cX9_way 50 = .ok (.iload_n 3, 1) := by decide +kernel
theorem dX9_way_51 : decode cX9_way 51 = .ok (.invokevirtual 277, 3) := by decide +kernel
theorem dX9_way_54 : decode cX9_way 54 = .ok (.ireturn, 1) := by decide +kernel
theorem dX9_enough_0 : decode cX9_enough 0 = .ok (.iload_n 1, 1) := by decide +kernel
theorem dX9_enough_1 : decode cX9_enough 1 = .ok (.iload_n 2, 1) := by decide +kernel
theorem dX9_enough_2 : decode cX9_enough 2 = .ok (.invokestatic 202, 3) := by decide +kernel
theorem dX9_enough_5 : decode cX9_enough 5 = .ok (.ifCond .eq 13, 3) := by decide +kernel
theorem dX9_enough_8 : decode cX9_enough 8 = .ok (.iload_n 3, 1) := by decide +kernel
theorem dX9_enough_9 : decode cX9_enough 9 = .ok (.ifCond .lt 9, 3) := by decide +kernel
theorem dX9_enough_12 : decode cX9_enough 12 = .ok (.iload_n 3, 1) := by decide +kernel
theorem dX9_enough_13 : decode cX9_enough 13 = .ok (.bipush 12, 2) := by decide +kernel
theorem dX9_enough_15 : decode cX9_enough 15 = .ok (.if_icmp .le 7, 3) := by decide +kernel
theorem dX9_enough_18 : decode cX9_enough 18 = .ok (.ldc2_w 110, 3) := by decide +kernel
theorem dX9_enough_21 : decode cX9_enough 21 = .ok (.lreturn, 1) := by decide +kernel
theorem dX9_enough_22 : decode cX9_enough 22 = .ok (.lconst 0, 1) := by decide +kernel
theorem dX9_enough_23 : decode cX9_enough 23 = .ok (.lstore 5, 2) := by decide +kernel
theorem dX9_enough_25 : decode cX9_enough 25 = .ok (.iconst 0, 1) := by decide +kernel
theorem dX9_enough_26 : decode cX9_enough 26 = .ok (.istore 7, 2) := by decide +kernel
theorem dX9_enough_28 : decode cX9_enough 28 = .ok (.iload 7, 2) := by decide +kernel
theorem dX9_enough_30 : decode cX9_enough 30 = .ok (.iload_n 3, 1) := by decide +kernel
theorem dX9_enough_31 : decode cX9_enough 31 = .ok (.if_icmp .gt 27, 3) := by decide +kernel
theorem dX9_enough_34 : decode cX9_enough 34 = .ok (.iload 7, 2) := by decide +kernel
theorem dX9_enough_36 : decode cX9_enough 36 = .ok (.iload_n 1, 1) := by decide +kernel
theorem dX9_enough_37 : decode cX9_enough 37 = .ok (.if_icmp .gt 21, 3) := by decide +kernel
theorem dX9_enough_40 : decode cX9_enough 40 = .ok (.lload 5, 2) := by decide +kernel
theorem dX9_enough_42 : decode cX9_enough 42 = .ok (.iload_n 1, 1) := by decide +kernel
theorem dX9_enough_43 : decode cX9_enough 43 = .ok (.iload_n 2, 1) := by decide +kernel
theorem dX9_enough_44 : decode cX9_enough 44 = .ok (.iload 7, 2) := by decide +kernel
theorem dX9_enough_46 : decode cX9_enough 46 = .ok (.invokestatic 215, 3) := by decide +kernel
theorem dX9_enough_49 : decode cX9_enough 49 = .ok (.ladd, 1) := by decide +kernel
theorem dX9_enough_50 : decode cX9_enough 50 = .ok (.lstore 5, 2) := by decide +kernel
theorem dX9_enough_52 : decode cX9_enough 52 = .ok (.iinc 7 1, 3) := by decide +kernel
theorem dX9_enough_55 : decode cX9_enough 55 = .ok (.goto (-27), 3) := by decide +kernel
theorem dX9_enough_58 : decode cX9_enough 58 = .ok (.lload 5, 2) := by decide +kernel
theorem dX9_enough_60 : decode cX9_enough 60 = .ok (.bipush 10, 2) := by decide +kernel
theorem dX9_enough_62 : decode cX9_enough 62 = .ok (.iload_n 1, 1) := by decide +kernel
theorem dX9_enough_63 : decode cX9_enough 63 = .ok (.invokestatic 211, 3) := by decide +kernel
theorem dX9_enough_66 : decode cX9_enough 66 = .ok (.iload 4, 2) := by decide +kernel
theorem dX9_enough_68 : decode cX9_enough 68 = .ok (.invokestatic 219, 3) := by decide +kernel
theorem dX9_enough_71 : decode cX9_enough 71 = .ok (.lreturn, 1) := by decide +kernel
theorem dX9_count_0 : decode cX9_count 0 = .ok (.iload_n 1, 1) := by decide +kernel
theorem dX9_count_1 : decode cX9_count 1 = .ok (.ifCond .lt 8, 3) := by decide +kernel
theorem dX9_count_4 : decode cX9_count 4 = .ok (.iload_n 1, 1) := by decide +kernel
theorem dX9_count_5 : decode cX9_count 5 = .ok (.iconst 4, 1) := by decide +kernel
theorem dX9_count_6 : decode cX9_count 6 = .ok (.if_icmp .lt 8, 3) := by decide +kernel
theorem dX9_count_9 : decode cX9_count 9 = .ok (.bipush (-2), 2) := by decide +kernel
theorem dX9_count_11 : decode cX9_count 11 = .ok (.goto 12, 3) := by decide +kernel
theorem dX9_count_14 : decode cX9_count 14 = .ok (.aload_n 0, 1) := by decide +kernel
theorem dX9_count_15 : decode cX9_count 15 = .ok (.getfield 12, 3) := by decide +kernel
theorem dX9_count_18 : decode cX9_count 18 = .ok (.getfield 281, 3) := by decide +kernel
theorem dX9_count_21 : decode cX9_count 21 = .ok (.iload_n 1, 1) := by decide +kernel
theorem dX9_count_22 : decode cX9_count 22 = .ok (.iaload, 1) := by decide +kernel
theorem dX9_count_23 : decode cX9_count 23 = .ok (.ireturn, 1) := by decide +kernel
theorem dX9_image_0 : decode cX9_image 0 = .ok (.iload_n 1, 1) := by decide +kernel
theorem dX9_image_1 : decode cX9_image 1 = .ok (.ifCond .lt 8, 3) := by decide +kernel
theorem dX9_image_4 : decode cX9_image 4 = .ok (.iload_n 1, 1) := by decide +kernel
theorem dX9_image_5 : decode cX9_image 5 = .ok (.iconst 3, 1) := by decide +kernel
theorem dX9_image_6 : decode cX9_image 6 = .ok (.if_icmp .lt 5, 3) := by decide +kernel
theorem dX9_image_9 : decode cX9_image 9 = .ok (.iconst 0, 1) := by decide +kernel
theorem dX9_image_10 : decode cX9_image 10 = .ok (.ireturn, 1) := by decide +kernel
theorem dX9_image_11 : decode cX9_image 11 = .ok (.aload_n 0, 1) := by decide +kernel
theorem dX9_image_12 : decode cX9_image 12 = .ok (.getfield 16, 3) := by decide +kernel
theorem dX9_image_15 : decode cX9_image 15 = .ok (.iload_n 1, 1) := by decide +kernel
theorem dX9_image_16 : decode cX9_image 16 = .ok (.aaload, 1) := by decide +kernel
theorem dX9_image_17 : decode cX9_image 17 = .ok (.ifnonnull 16, 3) := by decide +kernel
theorem dX9_image_20 : decode cX9_image 20 = .ok (.aload_n 0, 1) := by decide +kernel
theorem dX9_image_21 : decode cX9_image 21 = .ok (.getfield 16, 3) := by decide +kernel
theorem dX9_image_24 : decode cX9_image 24 = .ok (.iload_n 1, 1) := by decide +kernel
theorem dX9_image_25 : decode cX9_image 25 = .ok (.new 9, 3) := by decide +kernel
theorem dX9_image_28 : decode cX9_image 28 = .ok (.dup, 1) := by decide +kernel
theorem dX9_image_29 : decode cX9_image 29 = .ok (.invokespecial 11, 3) := by decide +kernel
theorem dX9_image_32 : decode cX9_image 32 = .ok (.aastore, 1) := by decide +kernel
theorem dX9_image_33 : decode cX9_image 33 = .ok (.aload_n 0, 1) := by decide +kernel
theorem dX9_image_34 : decode cX9_image 34 = .ok (.getfield 16, 3) := by decide +kernel
theorem dX9_image_37 : decode cX9_image 37 = .ok (.iload_n 1, 1) := by decide +kernel
theorem dX9_image_38 : decode cX9_image 38 = .ok (.aaload, 1) := by decide +kernel
theorem dX9_image_39 : decode cX9_image 39 = .ok (.aload_n 0, 1) := by decide +kernel
theorem dX9_image_40 : decode cX9_image 40 = .ok (.getfield 12, 3) := by decide +kernel
theorem dX9_image_43 : decode cX9_image 43 = .ok (.invokevirtual 284, 3) := by decide +kernel
theorem dX9_image_46 : decode cX9_image 46 = .ok (.iconst 1, 1) := by decide +kernel
theorem dX9_image_47 : decode cX9_image 47 = .ok (.ireturn, 1) := by decide +kernel
theorem dX9_again_0 : decode cX9_again 0 = .ok (.iload_n 1, 1) := by decide +kernel
theorem dX9_again_1 : decode cX9_again 1 = .ok (.ifCond .lt 17, 3) := by decide +kernel
theorem dX9_again_4 : decode cX9_again 4 = .ok (.iload_n 1, 1) := by decide +kernel
theorem dX9_again_5 : decode cX9_again 5 = .ok (.iconst 3, 1) := by decide +kernel
theorem dX9_again_6 : decode cX9_again 6 = .ok (.if_icmp .ge 12, 3) := by decide +kernel
theorem dX9_again_9 : decode cX9_again 9 = .ok (.aload_n 0, 1) := by decide +kernel
theorem dX9_again_10 : decode cX9_again 10 = .ok (.getfield 16, 3) := by decide +kernel
theorem dX9_again_13 : decode cX9_again 13 = .ok (.iload_n 1, 1) := by decide +kernel
theorem dX9_again_14 : decode cX9_again 14 = .ok (.aaload, 1) := by decide +kernel
theorem dX9_again_15 : decode cX9_again 15 = .ok (.ifnonnull 5, 3) := by decide +kernel
theorem dX9_again_18 : decode cX9_again 18 = .ok (.iconst 0, 1) := by decide +kernel
theorem dX9_again_19 : decode cX9_again 19 = .ok (.ireturn, 1) := by decide +kernel
theorem dX9_again_20 : decode cX9_again 20 = .ok (.aload_n 0, 1) := by decide +kernel
theorem dX9_again_21 : decode cX9_again 21 = .ok (.getfield 12, 3) := by decide +kernel
theorem dX9_again_24 : decode cX9_again 24 = .ok (.aload_n 0, 1) := by decide +kernel
theorem dX9_again_25 : decode cX9_again 25 = .ok (.getfield 16, 3) := by decide +kernel
theorem dX9_again_28 : decode cX9_again 28 = .ok (.iload_n 1, 1) := by decide +kernel
theorem dX9_again_29 : decode cX9_again 29 = .ok (.aaload, 1) := by decide +kernel
theorem dX9_again_30 : decode cX9_again 30 = .ok (.invokevirtual 284, 3) := by decide +kernel
theorem dX9_again_33 : decode cX9_again 33 = .ok (.iconst 1, 1) := by decide +kernel
theorem dX9_again_34 : decode cX9_again 34 = .ok (.ireturn, 1) := by decide +kernel
theorem dX9_coatAt_0 : decode cX9_coatAt 0 = .ok (.aload_n 0, 1) := by decide +kernel
theorem dX9_coatAt_1 : decode cX9_coatAt 1 = .ok (.getfield 12, 3) := by decide +kernel
theorem dX9_coatAt_4 : decode cX9_coatAt 4 = .ok (.iconst 0, 1) := by decide +kernel
theorem dX9_coatAt_5 : decode cX9_coatAt 5 = .ok (.iload_n 1, 1) := by decide +kernel
theorem dX9_coatAt_6 : decode cX9_coatAt 6 = .ok (.invokevirtual 287, 3) := by decide +kernel
theorem dX9_coatAt_9 : decode cX9_coatAt 9 = .ok (.ifCond .eq 15, 3) := by decide +kernel
theorem dX9_coatAt_12 : decode cX9_coatAt 12 = .ok (.aload_n 0, 1) := by decide +kernel
theorem dX9_coatAt_13 : decode cX9_coatAt 13 = .ok (.getfield 12, 3) := by decide +kernel
theorem dX9_coatAt_16 : decode cX9_coatAt 16 = .ok (.getfield 290, 3) := by decide +kernel
theorem dX9_coatAt_19 : decode cX9_coatAt 19 = .ok (.iload_n 1, 1) := by decide +kernel
theorem dX9_coatAt_20 : decode cX9_coatAt 20 = .ok (.aaload, 1) := by decide +kernel
theorem dX9_coatAt_21 : decode cX9_coatAt 21 = .ok (.goto 4, 3) := by decide +kernel
theorem dX9_coatAt_24 : decode cX9_coatAt 24 = .ok (.aconst_null, 1) := by decide +kernel
theorem dX9_coatAt_25 : decode cX9_coatAt 25 = .ok (.areturn, 1) := by decide +kernel
theorem dX9_lifeAt_0 : decode cX9_lifeAt 0 = .ok (.aload_n 0, 1) := by decide +kernel
theorem dX9_lifeAt_1 : decode cX9_lifeAt 1 = .ok (.getfield 12, 3) := by decide +kernel
theorem dX9_lifeAt_4 : decode cX9_lifeAt 4 = .ok (.iconst 1, 1) := by decide +kernel
theorem dX9_lifeAt_5 : decode cX9_lifeAt 5 = .ok (.iload_n 1, 1) := by decide +kernel
theorem dX9_lifeAt_6 : decode cX9_lifeAt 6 = .ok (.invokevirtual 287, 3) := by decide +kernel
theorem dX9_lifeAt_9 : decode cX9_lifeAt 9 = .ok (.ifCond .eq 15, 3) := by decide +kernel
theorem dX9_lifeAt_12 : decode cX9_lifeAt 12 = .ok (.aload_n 0, 1) := by decide +kernel
theorem dX9_lifeAt_13 : decode cX9_lifeAt 13 = .ok (.getfield 12, 3) := by decide +kernel
theorem dX9_lifeAt_16 : decode cX9_lifeAt 16 = .ok (.getfield 294, 3) := by decide +kernel
theorem dX9_lifeAt_19 : decode cX9_lifeAt 19 = .ok (.iload_n 1, 1) := by decide +kernel
theorem dX9_lifeAt_20 : decode cX9_lifeAt 20 = .ok (.aaload, 1) := by decide +kernel
theorem dX9_lifeAt_21 : decode cX9_lifeAt 21 = .ok (.goto 4, 3) := by decide +kernel
theorem dX9_lifeAt_24 : decode cX9_lifeAt 24 = .ok (.aconst_null, 1) := by decide +kernel
theorem dX9_lifeAt_25 : decode cX9_lifeAt 25 = .ok (.areturn, 1) := by decide +kernel
theorem dX9_townAt_0 : decode cX9_townAt 0 = .ok (.aload_n 0, 1) := by decide +kernel
theorem dX9_townAt_1 : decode cX9_townAt 1 = .ok (.getfield 12, 3) := by decide +kernel
theorem dX9_townAt_4 : decode cX9_townAt 4 = .ok (.iconst 2, 1) := by decide +kernel
theorem dX9_townAt_5 : decode cX9_townAt 5 = .ok (.iload_n 1, 1) := by decide +kernel
theorem dX9_townAt_6 : decode cX9_townAt 6 = .ok (.invokevirtual 287, 3) := by decide +kernel
theorem dX9_townAt_9 : decode cX9_townAt 9 = .ok (.ifCond .eq 15, 3) := by decide +kernel
theorem dX9_townAt_12 : decode cX9_townAt 12 = .ok (.aload_n 0, 1) := by decide +kernel
theorem dX9_townAt_13 : decode cX9_townAt 13 = .ok (.getfield 12, 3) := by decide +kernel
theorem dX9_townAt_16 : decode cX9_townAt 16 = .ok (.getfield 298, 3) := by decide +kernel
theorem dX9_townAt_19 : decode cX9_townAt 19 = .ok (.iload_n 1, 1) := by decide +kernel
theorem dX9_townAt_20 : decode cX9_townAt 20 = .ok (.aaload, 1) := by decide +kernel
theorem dX9_townAt_21 : decode cX9_townAt 21 = .ok (.goto 4, 3) := by decide +kernel
theorem dX9_townAt_24 : decode cX9_townAt 24 = .ok (.aconst_null, 1) := by decide +kernel
theorem dX9_townAt_25 : decode cX9_townAt 25 = .ok (.areturn, 1) := by decide +kernel
theorem dX9_sightAt_0 : decode cX9_sightAt 0 = .ok (.aload_n 0, 1) := by decide +kernel
theorem dX9_sightAt_1 : decode cX9_sightAt 1 = .ok (.getfield 12, 3) := by decide +kernel
theorem dX9_sightAt_4 : decode cX9_sightAt 4 = .ok (.iconst 3, 1) := by decide +kernel
theorem dX9_sightAt_5 : decode cX9_sightAt 5 = .ok (.iload_n 1, 1) := by decide +kernel
theorem dX9_sightAt_6 : decode cX9_sightAt 6 = .ok (.invokevirtual 287, 3) := by decide +kernel
theorem dX9_sightAt_9 : decode cX9_sightAt 9 = .ok (.ifCond .eq 15, 3) := by decide +kernel
theorem dX9_sightAt_12 : decode cX9_sightAt 12 = .ok (.aload_n 0, 1) := by decide +kernel
theorem dX9_sightAt_13 : decode cX9_sightAt 13 = .ok (.getfield 12, 3) := by decide +kernel
theorem dX9_sightAt_16 : decode cX9_sightAt 16 = .ok (.getfield 302, 3) := by decide +kernel
theorem dX9_sightAt_19 : decode cX9_sightAt 19 = .ok (.iload_n 1, 1) := by decide +kernel
theorem dX9_sightAt_20 : decode cX9_sightAt 20 = .ok (.aaload, 1) := by decide +kernel
theorem dX9_sightAt_21 : decode cX9_sightAt 21 = .ok (.goto 4, 3) := by decide +kernel
theorem dX9_sightAt_24 : decode cX9_sightAt 24 = .ok (.aconst_null, 1) := by decide +kernel
theorem dX9_sightAt_25 : decode cX9_sightAt 25 = .ok (.areturn, 1) := by decide +kernel
theorem dX9_orderedAt_0 : decode cX9_orderedAt 0 = .ok (.aload_n 0, 1) := by decide +kernel
theorem dX9_orderedAt_1 : decode cX9_orderedAt 1 = .ok (.iload_n 1, 1) := by decide +kernel
theorem dX9_orderedAt_2 : decode cX9_orderedAt 2 = .ok (.invokevirtual 84, 3) := by decide +kernel
theorem dX9_orderedAt_5 : decode cX9_orderedAt 5 = .ok (.astore_n 2, 1) := by decide +kernel
theorem dX9_orderedAt_6 : decode cX9_orderedAt 6 = .ok (.aload_n 2, 1) := by decide +kernel
theorem dX9_orderedAt_7 : decode cX9_orderedAt 7 = .ok (.ifnonnull 5, 3) := by decide +kernel
theorem dX9_orderedAt_10 : decode cX9_orderedAt 10 = .ok (.aconst_null, 1) := by decide +kernel
theorem dX9_orderedAt_11 : decode cX9_orderedAt 11 = .ok (.areturn, 1) := by decide +kernel
theorem dX9_orderedAt_12 : decode cX9_orderedAt 12 = .ok (.aload_n 0, 1) := by decide +kernel
theorem dX9_orderedAt_13 : decode cX9_orderedAt 13 = .ok (.getfield 37, 3) := by decide +kernel
theorem dX9_orderedAt_16 : decode cX9_orderedAt 16 = .ok (.aload_n 2, 1) := by decide +kernel
theorem dX9_orderedAt_17 : decode cX9_orderedAt 17 = .ok (.invokevirtual 112, 3) := by decide +kernel
theorem dX9_orderedAt_20 : decode cX9_orderedAt 20 = .ok (.aload_n 0, 1) := by decide +kernel
theorem dX9_orderedAt_21 : decode cX9_orderedAt 21 = .ok (.getfield 37, 3) := by decide +kernel
theorem dX9_orderedAt_24 : decode cX9_orderedAt 24 = .ok (.invokevirtual 306, 3) := by decide +kernel
theorem dX9_orderedAt_27 : decode cX9_orderedAt 27 = .ok (.ifCond .eq 7, 3) := by decide +kernel
theorem dX9_orderedAt_30 : decode cX9_orderedAt 30 = .ok (.aload_n 2, 1) := by decide +kernel
theorem dX9_orderedAt_31 : decode cX9_orderedAt 31 = .ok (.goto 4, 3) := by decide +kernel
theorem dX9_orderedAt_34 : decode cX9_orderedAt 34 = .ok (.aconst_null, 1) := by decide +kernel
theorem dX9_orderedAt_35 : decode cX9_orderedAt 35 = .ok (.areturn, 1) := by decide +kernel
theorem dX9_seenAt_0 : decode cX9_seenAt 0 = .ok (.aload_n 0, 1) := by decide +kernel
theorem dX9_seenAt_1 : decode cX9_seenAt 1 = .ok (.iload_n 1, 1) := by decide +kernel
theorem dX9_seenAt_2 : decode cX9_seenAt 2 = .ok (.invokevirtual 84, 3) := by decide +kernel
theorem dX9_seenAt_5 : decode cX9_seenAt 5 = .ok (.astore_n 3, 1) := by decide +kernel
theorem dX9_seenAt_6 : decode cX9_seenAt 6 = .ok (.aload_n 0, 1) := by decide +kernel
theorem dX9_seenAt_7 : decode cX9_seenAt 7 = .ok (.iload_n 2, 1) := by decide +kernel
theorem dX9_seenAt_8 : decode cX9_seenAt 8 = .ok (.invokevirtual 223, 3) := by decide +kernel
theorem dX9_seenAt_11 : decode cX9_seenAt 11 = .ok (.astore 4, 2) := by decide +kernel
theorem dX9_seenAt_13 : decode cX9_seenAt 13 = .ok (.aload_n 3, 1) := by decide +kernel
theorem dX9_seenAt_14 : decode cX9_seenAt 14 = .ok (.ifnull 20, 3) := by decide +kernel
theorem dX9_seenAt_17 : decode cX9_seenAt 17 = .ok (.aload 4, 2) := by decide +kernel
theorem dX9_seenAt_19 : decode cX9_seenAt 19 = .ok (.ifnull 15, 3) := by decide +kernel
theorem dX9_seenAt_22 : decode cX9_seenAt 22 = .ok (.aload 4, 2) := by decide +kernel
theorem dX9_seenAt_24 : decode cX9_seenAt 24 = .ok (.invokevirtual 310, 3) := by decide +kernel
theorem dX9_seenAt_27 : decode cX9_seenAt 27 = .ok (.aload_n 3, 1) := by decide +kernel
theorem dX9_seenAt_28 : decode cX9_seenAt 28 = .ok (.getfield 123, 3) := by decide +kernel
theorem dX9_seenAt_31 : decode cX9_seenAt 31 = .ok (.if_icmp .lt 5, 3) := by decide +kernel
theorem dX9_seenAt_34 : decode cX9_seenAt 34 = .ok (.aconst_null, 1) := by decide +kernel
theorem dX9_seenAt_35 : decode cX9_seenAt 35 = .ok (.areturn, 1) := by decide +kernel
theorem dX9_seenAt_36 : decode cX9_seenAt 36 = .ok (.aload_n 0, 1) := by decide +kernel
theorem dX9_seenAt_37 : decode cX9_seenAt 37 = .ok (.getfield 37, 3) := by decide +kernel
theorem dX9_seenAt_40 : decode cX9_seenAt 40 = .ok (.aload_n 3, 1) := by decide +kernel
theorem dX9_seenAt_41 : decode cX9_seenAt 41 = .ok (.invokevirtual 112, 3) := by decide +kernel
theorem dX9_seenAt_44 : decode cX9_seenAt 44 = .ok (.aload_n 0, 1) := by decide +kernel
theorem dX9_seenAt_45 : decode cX9_seenAt 45 = .ok (.getfield 37, 3) := by decide +kernel
theorem dX9_seenAt_48 : decode cX9_seenAt 48 = .ok (.aload 4, 2) := by decide +kernel
theorem dX9_seenAt_50 : decode cX9_seenAt 50 = .ok (.invokevirtual 313, 3) := by decide +kernel
theorem dX9_seenAt_53 : decode cX9_seenAt 53 = .ok (.aload_n 3, 1) := by decide +kernel
theorem dX9_seenAt_54 : decode cX9_seenAt 54 = .ok (.areturn, 1) := by decide +kernel
theorem dX9_areMonths_0 : decode cX9_areMonths 0 = .ok (.iload_n 0, 1) := by decide +kernel
theorem dX9_areMonths_1 : decode cX9_areMonths 1 = .ok (.iconst 1, 1) := by decide +kernel
theorem dX9_areMonths_2 : decode cX9_areMonths 2 = .ok (.if_icmp .lt 23, 3) := by decide +kernel
theorem dX9_areMonths_5 : decode cX9_areMonths 5 = .ok (.iload_n 0, 1) := by decide +kernel
theorem dX9_areMonths_6 : decode cX9_areMonths 6 = .ok (.bipush 12, 2) := by decide +kernel
theorem dX9_areMonths_8 : decode cX9_areMonths 8 = .ok (.if_icmp .gt 17, 3) := by decide +kernel
theorem dX9_areMonths_11 : decode cX9_areMonths 11 = .ok (.iload_n 1, 1) := by decide +kernel
theorem dX9_areMonths_12 : decode cX9_areMonths 12 = .ok (.ifCond .lt 13, 3) := by decide +kernel
theorem dX9_areMonths_15 : decode cX9_areMonths 15 = .ok (.iload_n 1, 1) := by decide +kernel
theorem dX9_areMonths_16 : decode cX9_areMonths 16 = .ok (.bipush 10, 2) := by decide +kernel
theorem dX9_areMonths_18 : decode cX9_areMonths 18 = .ok (.if_icmp .gt 7, 3) := by decide +kernel
theorem dX9_areMonths_21 : decode cX9_areMonths 21 = .ok (.iconst 1, 1) := by decide +kernel
theorem dX9_areMonths_22 : decode cX9_areMonths 22 = .ok (.goto 4, 3) := by decide +kernel
theorem dX9_areMonths_25 : decode cX9_areMonths 25 = .ok (.iconst 0, 1) := by decide +kernel
theorem dX9_areMonths_26 : decode cX9_areMonths 26 = .ok (.ireturn, 1) := by decide +kernel
theorem dX9_isCost_0 : decode cX9_isCost 0 = .ok (.iload_n 0, 1) := by decide +kernel
theorem dX9_isCost_1 : decode cX9_isCost 1 = .ok (.ifCond .lt 13, 3) := by decide +kernel
theorem dX9_isCost_4 : decode cX9_isCost 4 = .ok (.iload_n 0, 1) := by decide +kernel
theorem dX9_isCost_5 : decode cX9_isCost 5 = .ok (.bipush 99, 2) := by decide +kernel
theorem dX9_isCost_7 : decode cX9_isCost 7 = .ok (.if_icmp .gt 7, 3) := by decide +kernel
theorem dX9_isCost_10 : decode cX9_isCost 10 = .ok (.iconst 1, 1) := by decide +kernel
theorem dX9_isCost_11 : decode cX9_isCost 11 = .ok (.goto 4, 3) := by decide +kernel
theorem dX9_isCost_14 : decode cX9_isCost 14 = .ok (.iconst 0, 1) := by decide +kernel
theorem dX9_isCost_15 : decode cX9_isCost 15 = .ok (.ireturn, 1) := by decide +kernel
theorem dX9_begun_0 : decode cX9_begun 0 = .ok (.iload_n 1, 1) := by decide +kernel
theorem dX9_begun_1 : decode cX9_begun 1 = .ok (.iconst 1, 1) := by decide +kernel
theorem dX9_begun_2 : decode cX9_begun 2 = .ok (.if_icmp .ge 7, 3) := by decide +kernel
theorem dX9_begun_5 : decode cX9_begun 5 = .ok (.iconst 0, 1) := by decide +kernel
theorem dX9_begun_6 : decode cX9_begun 6 = .ok (.goto 10, 3) := by decide +kernel
theorem dX9_begun_9 : decode cX9_begun 9 = .ok (.iload_n 0, 1) := by decide +kernel
theorem dX9_begun_10 : decode cX9_begun 10 = .ok (.iload_n 1, 1) := by decide +kernel
theorem dX9_begun_11 : decode cX9_begun 11 = .ok (.iadd, 1) := by decide +kernel
theorem dX9_begun_12 : decode cX9_begun 12 = .ok (.iconst 1, 1) := by decide +kernel
theorem dX9_begun_13 : decode cX9_begun 13 = .ok (.isub, 1) := by decide +kernel
theorem dX9_begun_14 : decode cX9_begun 14 = .ok (.iload_n 1, 1) := by decide +kernel
theorem dX9_begun_15 : decode cX9_begun 15 = .ok (.idiv, 1) := by decide +kernel
theorem dX9_begun_16 : decode cX9_begun 16 = .ok (.ireturn, 1) := by decide +kernel
theorem dX9_power_0 : decode cX9_power 0 = .ok (.lconst 1, 1) := by decide +kernel
theorem dX9_power_1 : decode cX9_power 1 = .ok (.lstore_n 2, 1) := by decide +kernel
theorem dX9_power_2 : decode cX9_power 2 = .ok (.iconst 0, 1) := by decide +kernel
theorem dX9_power_3 : decode cX9_power 3 = .ok (.istore 4, 2) := by decide +kernel
theorem dX9_power_5 : decode cX9_power 5 = .ok (.iload 4, 2) := by decide +kernel
theorem dX9_power_7 : decode cX9_power 7 = .ok (.iload_n 1, 1) := by decide +kernel
theorem dX9_power_8 : decode cX9_power 8 = .ok (.if_icmp .ge 14, 3) := by decide +kernel
theorem dX9_power_11 : decode cX9_power 11 = .ok (.lload_n 2, 1) := by decide +kernel
theorem dX9_power_12 : decode cX9_power 12 = .ok (.iload_n 0, 1) := by decide +kernel
theorem dX9_power_13 : decode cX9_power 13 = .ok (.i2l, 1) := by decide +kernel
theorem dX9_power_14 : decode cX9_power 14 = .ok (.lmul, 1) := by decide +kernel
theorem dX9_power_15 : decode cX9_power 15 = .ok (.lstore_n 2, 1) := by decide +kernel
theorem dX9_power_16 : decode cX9_power 16 = .ok (.iinc 4 1, 3) := by decide +kernel
theorem dX9_power_19 : decode cX9_power 19 = .ok (.goto (-14), 3) := by decide +kernel
theorem dX9_power_22 : decode cX9_power 22 = .ok (.lload_n 2, 1) := by decide +kernel
theorem dX9_power_23 : decode cX9_power 23 = .ok (.lreturn, 1) := by decide +kernel
theorem dX9_weight_0 : decode cX9_weight 0 = .ok (.lconst 1, 1) := by decide +kernel
theorem dX9_weight_1 : decode cX9_weight 1 = .ok (.lstore_n 3, 1) := by decide +kernel
theorem dX9_weight_2 : decode cX9_weight 2 = .ok (.iconst 1, 1) := by decide +kernel
theorem dX9_weight_3 : decode cX9_weight 3 = .ok (.istore 5, 2) := by decide +kernel
theorem dX9_weight_5 : decode cX9_weight 5 = .ok (.iload 5, 2) := by decide +kernel
theorem dX9_weight_7 : decode cX9_weight 7 = .ok (.iload_n 2, 1) := by decide +kernel
theorem dX9_weight_8 : decode cX9_weight 8 = .ok (.if_icmp .gt 23, 3) := by decide +kernel
theorem dX9_weight_11 : decode cX9_weight 11 = .ok (.lload_n 3, 1) := by decide +kernel
theorem dX9_weight_12 : decode cX9_weight 12 = .ok (.iload_n 0, 1) := by decide +kernel
theorem dX9_weight_13 : decode cX9_weight 13 = .ok (.iload_n 2, 1) := by decide +kernel
theorem dX9_weight_14 : decode cX9_weight 14 = .ok (.isub, 1) := by decide +kernel
theorem dX9_weight_15 : decode cX9_weight 15 = .ok (.iload 5, 2) := by decide +kernel
theorem dX9_weight_17 : decode cX9_weight 17 = .ok (.iadd, 1) := by decide +kernel
theorem dX9_weight_18 : decode cX9_weight 18 = .ok (.i2l, 1) := by decide +kernel
theorem dX9_weight_19 : decode cX9_weight 19 = .ok (.lmul, 1) := by decide +kernel
theorem dX9_weight_20 : decode cX9_weight 20 = .ok (.iload 5, 2) := by decide +kernel
theorem dX9_weight_22 : decode cX9_weight 22 = .ok (.i2l, 1) := by decide +kernel
theorem dX9_weight_23 : decode cX9_weight 23 = .ok (.ldiv, 1) := by decide +kernel
theorem dX9_weight_24 : decode cX9_weight 24 = .ok (.lstore_n 3, 1) := by decide +kernel
theorem dX9_weight_25 : decode cX9_weight 25 = .ok (.iinc 5 1, 3) := by decide +kernel
theorem dX9_weight_28 : decode cX9_weight 28 = .ok (.goto (-23), 3) := by decide +kernel
theorem dX9_weight_31 : decode cX9_weight 31 = .ok (.lload_n 3, 1) := by decide +kernel
theorem dX9_weight_32 : decode cX9_weight 32 = .ok (.iload_n 1, 1) := by decide +kernel
theorem dX9_weight_33 : decode cX9_weight 33 = .ok (.iload_n 2, 1) := by decide +kernel
theorem dX9_weight_34 : decode cX9_weight 34 = .ok (.invokestatic 211, 3) := by decide +kernel
theorem dX9_weight_37 : decode cX9_weight 37 = .ok (.lmul, 1) := by decide +kernel
theorem dX9_weight_38 : decode cX9_weight 38 = .ok (.bipush 10, 2) := by decide +kernel
theorem dX9_weight_40 : decode cX9_weight 40 = .ok (.iload_n 1, 1) := by decide +kernel
theorem dX9_weight_41 : decode cX9_weight 41 = .ok (.isub, 1) := by decide +kernel
theorem dX9_weight_42 : decode cX9_weight 42 = .ok (.iload_n 0, 1) := by decide +kernel
theorem dX9_weight_43 : decode cX9_weight 43 = .ok (.iload_n 2, 1) := by decide +kernel
theorem dX9_weight_44 : decode cX9_weight 44 = .ok (.isub, 1) := by decide +kernel
theorem dX9_weight_45 : decode cX9_weight 45 = .ok (.invokestatic 211, 3) := by decide +kernel
theorem dX9_weight_48 : decode cX9_weight 48 = .ok (.lmul, 1) := by decide +kernel
theorem dX9_weight_49 : decode cX9_weight 49 = .ok (.lreturn, 1) := by decide +kernel
theorem dX9_inLeastTerms_0 : decode cX9_inLeastTerms 0 = .ok (.lload_n 2, 1) := by decide +kernel
theorem dX9_inLeastTerms_1 : decode cX9_inLeastTerms 1 = .ok (.lstore 5, 2) := by decide +kernel
theorem dX9_inLeastTerms_3 : decode cX9_inLeastTerms 3 = .ok (.lload_n 0, 1) := by decide +kernel
theorem dX9_inLeastTerms_4 : decode cX9_inLeastTerms 4 = .ok (.lstore 7, 2) := by decide +kernel
theorem dX9_inLeastTerms_6 : decode cX9_inLeastTerms 6 = .ok (.iconst 0, 1) := by decide +kernel
theorem dX9_inLeastTerms_7 : decode cX9_inLeastTerms 7 = .ok (.istore 9, 2) := by decide +kernel
theorem dX9_inLeastTerms_9 : decode cX9_inLeastTerms 9 = .ok (.iload 9, 2) := by decide +kernel
theorem dX9_inLeastTerms_11 : decode cX9_inLeastTerms 11 = .ok (.sipush 1000, 3) := by decide +kernel
theorem dX9_inLeastTerms_14 : decode cX9_inLeastTerms 14 = .ok (.if_icmp .ge 31, 3) := by decide +kernel
theorem dX9_inLeastTerms_17 : decode cX9_inLeastTerms 17 = .ok (.lload 7, 2) := by decide +kernel
theorem dX9_inLeastTerms_19 : decode cX9_inLeastTerms 19 = .ok (.lconst 0, 1) := by decide +kernel
theorem dX9_inLeastTerms_20 : decode cX9_inLeastTerms 20 = .ok (.lcmp, 1) := by decide +kernel
theorem dX9_inLeastTerms_21 : decode cX9_inLeastTerms 21 = .ok (.ifCond .eq 24, 3) := by decide +kernel
theorem dX9_inLeastTerms_24 : decode cX9_inLeastTerms 24 = .ok (.lload 5, 2) := by decide +kernel
theorem dX9_inLeastTerms_26 : decode cX9_inLeastTerms 26 = .ok (.lload 7, 2) := by decide +kernel
theorem dX9_inLeastTerms_28 : decode cX9_inLeastTerms 28 = .ok (.lrem, 1) := by decide +kernel
theorem dX9_inLeastTerms_29 : decode cX9_inLeastTerms 29 = .ok (.lstore 10, 2) := by decide +kernel
theorem dX9_inLeastTerms_31 : decode cX9_inLeastTerms 31 = .ok (.lload 7, 2) := by decide +kernel
theorem dX9_inLeastTerms_33 : decode cX9_inLeastTerms 33 = .ok (.lstore 5, 2) := by decide +kernel
theorem dX9_inLeastTerms_35 : decode cX9_inLeastTerms 35 = .ok (.lload 10, 2) := by decide +kernel
theorem dX9_inLeastTerms_37 : decode cX9_inLeastTerms 37 = .ok (.lstore 7, 2) := by decide +kernel
theorem dX9_inLeastTerms_39 : decode cX9_inLeastTerms 39 = .ok (.iinc 9 1, 3) := by decide +kernel
theorem dX9_inLeastTerms_42 : decode cX9_inLeastTerms 42 = .ok (.goto (-33), 3) := by decide +kernel
theorem dX9_inLeastTerms_45 : decode cX9_inLeastTerms 45 = .ok (.lload 5, 2) := by decide +kernel
theorem dX9_inLeastTerms_47 : decode cX9_inLeastTerms 47 = .ok (.lconst 1, 1) := by decide +kernel
theorem dX9_inLeastTerms_48 : decode cX9_inLeastTerms 48 = .ok (.lcmp, 1) := by decide +kernel
theorem dX9_inLeastTerms_49 : decode cX9_inLeastTerms 49 = .ok (.ifCond .ge 7, 3) := by decide +kernel
theorem dX9_inLeastTerms_52 : decode cX9_inLeastTerms 52 = .ok (.ldc2_w 110, 3) := by decide +kernel
theorem dX9_inLeastTerms_55 : decode cX9_inLeastTerms 55 = .ok (.lreturn, 1) := by decide +kernel
theorem dX9_inLeastTerms_56 : decode cX9_inLeastTerms 56 = .ok (.iload 4, 2) := by decide +kernel
theorem dX9_inLeastTerms_58 : decode cX9_inLeastTerms 58 = .ok (.ifCond .eq 10, 3) := by decide +kernel
theorem dX9_inLeastTerms_61 : decode cX9_inLeastTerms 61 = .ok (.lload_n 2, 1) := by decide +kernel
theorem dX9_inLeastTerms_62 : decode cX9_inLeastTerms 62 = .ok (.lload 5, 2) := by decide +kernel
theorem dX9_inLeastTerms_64 : decode cX9_inLeastTerms 64 = .ok (.ldiv, 1) := by decide +kernel
theorem dX9_inLeastTerms_65 : decode cX9_inLeastTerms 65 = .ok (.goto 7, 3) := by decide +kernel
theorem dX9_inLeastTerms_68 : decode cX9_inLeastTerms 68 = .ok (.lload_n 0, 1) := by decide +kernel
theorem dX9_inLeastTerms_69 : decode cX9_inLeastTerms 69 = .ok (.lload 5, 2) := by decide +kernel
theorem dX9_inLeastTerms_71 : decode cX9_inLeastTerms 71 = .ok (.ldiv, 1) := by decide +kernel
theorem dX9_inLeastTerms_72 : decode cX9_inLeastTerms 72 = .ok (.lreturn, 1) := by decide +kernel
theorem dX10_init_0 : decode cX10_init 0 = .ok (.aload_n 0, 1) := by decide +kernel
theorem dX10_init_1 : decode cX10_init 1 = .ok (.invokespecial 1, 3) := by decide +kernel
theorem dX10_init_4 : decode cX10_init 4 = .ok (.aload_n 0, 1) := by decide +kernel
theorem dX10_init_5 : decode cX10_init 5 = .ok (.sipush 2400, 3) := by decide +kernel
theorem dX10_init_8 : decode cX10_init 8 = .ok (.newarray .byte, 2) := by decide +kernel
theorem dX10_init_10 : decode cX10_init 10 = .ok (.putfield 7, 3) := by decide +kernel
theorem dX10_init_13 : decode cX10_init 13 = .ok (.aload_n 0, 1) := by decide +kernel
theorem dX10_init_14 : decode cX10_init 14 = .ok (.iconst 4, 1) := by decide +kernel
theorem dX10_init_15 : decode cX10_init 15 = .ok (.newarray .int, 2) := by decide +kernel
theorem dX10_init_17 : decode cX10_init 17 = .ok (.putfield 13, 3) := by decide +kernel
theorem dX10_init_20 : decode cX10_init 20 = .ok (.aload_n 0, 1) := by decide +kernel
theorem dX10_init_21 : decode cX10_init 21 = .ok (.iconst 4, 1) := by decide +kernel
theorem dX10_init_22 : decode cX10_init 22 = .ok (.newarray .int, 2) := by decide +kernel
theorem dX10_init_24 : decode cX10_init 24 = .ok (.putfield 17, 3) := by decide +kernel
theorem dX10_init_27 : decode cX10_init 27 = .ok (.aload_n 0, 1) := by decide +kernel
theorem dX10_init_28 : decode cX10_init 28 = .ok (.iconst 4, 1) := by decide +kernel
theorem dX10_init_29 : decode cX10_init 29 = .ok (.newarray .int, 2) := by decide +kernel
theorem dX10_init_31 : decode cX10_init 31 = .ok (.putfield 20, 3) := by decide +kernel
theorem dX10_init_34 : decode cX10_init 34 = .ok (.aload_n 0, 1) := by decide +kernel
theorem dX10_init_35 : decode cX10_init 35 = .ok (.bipush 16, 2) := by decide +kernel
theorem dX10_init_37 : decode cX10_init 37 = .ok (.newarray .int, 2) := by decide +kernel
theorem dX10_init_39 : decode cX10_init 39 = .ok (.putfield 23, 3) := by decide +kernel
theorem dX10_init_42 : decode cX10_init 42 = .ok (.aload_n 0, 1) := by decide +kernel
theorem dX10_init_43 : decode cX10_init 43 = .ok (.sipush 1104, 3) := by decide +kernel
theorem dX10_init_46 : decode cX10_init 46 = .ok (.newarray .int, 2) := by decide +kernel
theorem dX10_init_48 : decode cX10_init 48 = .ok (.putfield 26, 3) := by decide +kernel
theorem dX10_init_51 : decode cX10_init 51 = .ok (.aload_n 0, 1) := by decide +kernel
theorem dX10_init_52 : decode cX10_init 52 = .ok (.sipush 648, 3) := by decide +kernel
theorem dX10_init_55 : decode cX10_init 55 = .ok (.newarray .int, 2) := by decide +kernel
theorem dX10_init_57 : decode cX10_init 57 = .ok (.putfield 29, 3) := by decide +kernel
theorem dX10_init_60 : decode cX10_init 60 = .ok (.aload_n 0, 1) := by decide +kernel
theorem dX10_init_61 : decode cX10_init 61 = .ok (.sipush 328, 3) := by decide +kernel
theorem dX10_init_64 : decode cX10_init 64 = .ok (.newarray .int, 2) := by decide +kernel
theorem dX10_init_66 : decode cX10_init 66 = .ok (.putfield 32, 3) := by decide +kernel
theorem dX10_init_69 : decode cX10_init 69 = .ok (.aload_n 0, 1) := by decide +kernel
theorem dX10_init_70 : decode cX10_init 70 = .ok (.sipush 248, 3) := by decide +kernel
theorem dX10_init_73 : decode cX10_init 73 = .ok (.newarray .int, 2) := by decide +kernel
theorem dX10_init_75 : decode cX10_init 75 = .ok (.putfield 35, 3) := by decide +kernel
theorem dX10_init_78 : decode cX10_init 78 = .ok (.aload_n 0, 1) := by decide +kernel
theorem dX10_init_79 : decode cX10_init 79 = .ok (.sipush 138, 3) := by decide +kernel
theorem dX10_init_82 : decode cX10_init 82 = .ok (.newarray .int, 2) := by decide +kernel
theorem dX10_init_84 : decode cX10_init 84 = .ok (.putfield 38, 3) := by decide +kernel
theorem dX10_init_87 : decode cX10_init 87 = .ok (.aload_n 0, 1) := by decide +kernel
theorem dX10_init_88 : decode cX10_init 88 = .ok (.iconst 4, 1) := by decide +kernel
theorem dX10_init_89 : decode cX10_init 89 = .ok (.newarray .int, 2) := by decide +kernel
theorem dX10_init_91 : decode cX10_init 91 = .ok (.putfield 41, 3) := by decide +kernel
theorem dX10_init_94 : decode cX10_init 94 = .ok (.aload_n 0, 1) := by decide +kernel
theorem dX10_init_95 : decode cX10_init 95 = .ok (.bipush 9, 2) := by decide +kernel
theorem dX10_init_97 : decode cX10_init 97 = .ok (.newarray .int, 2) := by decide +kernel
theorem dX10_init_99 : decode cX10_init 99 = .ok (.putfield 44, 3) := by decide +kernel
theorem dX10_init_102 : decode cX10_init 102 = .ok (.aload_n 0, 1) := by decide +kernel
theorem dX10_init_103 : decode cX10_init 103 = .ok (.bipush 9, 2) := by decide +kernel
theorem dX10_init_105 : decode cX10_init 105 = .ok (.newarray .int, 2) := by decide +kernel
theorem dX10_init_107 : decode cX10_init 107 = .ok (.putfield 47, 3) := by decide +kernel
theorem dX10_init_110 : decode cX10_init 110 = .ok (.aload_n 0, 1) := by decide +kernel
theorem dX10_init_111 : decode cX10_init 111 = .ok (.sipush 512, 3) := by decide +kernel
theorem dX10_init_114 : decode cX10_init 114 = .ok (.newarray .long, 2) := by decide +kernel
theorem dX10_init_116 : decode cX10_init 116 = .ok (.putfield 50, 3) := by decide +kernel
theorem dX10_init_119 : decode cX10_init 119 = .ok (.aload_n 0, 1) := by decide +kernel
theorem dX10_init_120 : decode cX10_init 120 = .ok (.sipush 512, 3) := by decide +kernel
theorem dX10_init_123 : decode cX10_init 123 = .ok (.newarray .int, 2) := by decide +kernel
theorem dX10_init_125 : decode cX10_init 125 = .ok (.putfield 54, 3) := by decide +kernel
theorem dX10_init_128 : decode cX10_init 128 = .ok (.aload_n 0, 1) := by decide +kernel
theorem dX10_init_129 : decode cX10_init 129 = .ok (.sipush 4608, 3) := by decide +kernel
theorem dX10_init_132 : decode cX10_init 132 = .ok (.newarray .int, 2) := by decide +kernel
theorem dX10_init_134 : decode cX10_init 134 = .ok (.putfield 57, 3) := by decide +kernel
theorem dX10_init_137 : decode cX10_init 137 = .ok (.aload_n 0, 1) := by decide +kernel
theorem dX10_init_138 : decode cX10_init 138 = .ok (.bipush 9, 2) := by decide +kernel
theorem dX10_init_140 : decode cX10_init 140 = .ok (.newarray .int, 2) := by decide +kernel
theorem dX10_init_142 : decode cX10_init 142 = .ok (.putfield 60, 3) := by decide +kernel
theorem dX10_init_145 : decode cX10_init 145 = .ok (.aload_n 0, 1) := by decide +kernel
theorem dX10_init_146 : decode cX10_init 146 = .ok (.bipush 6, 2) := by decide +kernel
theorem dX10_init_148 : decode cX10_init 148 = .ok (.newarray .int, 2) := by decide +kernel
theorem dX10_init_150 : decode cX10_init 150 = .ok (.putfield 63, 3) := by decide +kernel
theorem dX10_init_153 : decode cX10_init 153 = .ok (.aload_n 0, 1) := by decide +kernel
theorem dX10_init_154 : decode cX10_init 154 = .ok (.bipush 6, 2) := by decide +kernel
theorem dX10_init_156 : decode cX10_init 156 = .ok (.newarray .int, 2) := by decide +kernel
theorem dX10_init_158 : decode cX10_init 158 = .ok (.putfield 66, 3) := by decide +kernel
theorem dX10_init_161 : decode cX10_init 161 = .ok (.aload_n 0, 1) := by decide +kernel
theorem dX10_init_162 : decode cX10_init 162 = .ok (.bipush 6, 2) := by decide +kernel
theorem dX10_init_164 : decode cX10_init 164 = .ok (.newarray .int, 2) := by decide +kernel
theorem dX10_init_166 : decode cX10_init 166 = .ok (.putfield 69, 3) := by decide +kernel
theorem dX10_init_169 : decode cX10_init 169 = .ok (.aload_n 0, 1) := by decide +kernel
theorem dX10_init_170 : decode cX10_init 170 = .ok (.bipush 6, 2) := by decide +kernel
theorem dX10_init_172 : decode cX10_init 172 = .ok (.newarray .int, 2) := by decide +kernel
theorem dX10_init_174 : decode cX10_init 174 = .ok (.putfield 72, 3) := by decide +kernel
theorem dX10_init_177 : decode cX10_init 177 = .ok (.aload_n 0, 1) := by decide +kernel
theorem dX10_init_178 : decode cX10_init 178 = .ok (.sipush 512, 3) := by decide +kernel
theorem dX10_init_181 : decode cX10_init 181 = .ok (.newarray .long, 2) := by decide +kernel
theorem dX10_init_183 : decode cX10_init 183 = .ok (.putfield 75, 3) := by decide +kernel
theorem dX10_init_186 : decode cX10_init 186 = .ok (.aload_n 0, 1) := by decide +kernel
theorem dX10_init_187 : decode cX10_init 187 = .ok (.sipush 512, 3) := by decide +kernel
theorem dX10_init_190 : decode cX10_init 190 = .ok (.newarray .long, 2) := by decide +kernel
theorem dX10_init_192 : decode cX10_init 192 = .ok (.putfield 78, 3) := by decide +kernel
theorem dX10_init_195 : decode cX10_init 195 = .ok (.aload_n 0, 1) := by decide +kernel
theorem dX10_init_196 : decode cX10_init 196 = .ok (.bipush 9, 2) := by decide +kernel
theorem dX10_init_198 : decode cX10_init 198 = .ok (.newarray .int, 2) := by decide +kernel
theorem dX10_init_200 : decode cX10_init 200 = .ok (.putfield 81, 3) := by decide +kernel
theorem dX10_init_203 : decode cX10_init 203 = .ok (.aload_n 0, 1) := by decide +kernel
theorem dX10_init_204 : decode cX10_init 204 = .ok (.iconst 4, 1) := by decide +kernel
theorem dX10_init_205 : decode cX10_init 205 = .ok (.newarray .int, 2) := by decide +kernel
theorem dX10_init_207 : decode cX10_init 207 = .ok (.putfield 84, 3) := by decide +kernel
theorem dX10_init_210 : decode cX10_init 210 = .ok (.aload_n 0, 1) := by decide +kernel
theorem dX10_init_211 : decode cX10_init 211 = .ok (.sipush 512, 3) := by decide +kernel
theorem dX10_init_214 : decode cX10_init 214 = .ok (.newarray .int, 2) := by decide +kernel
theorem dX10_init_216 : decode cX10_init 216 = .ok (.putfield 87, 3) := by decide +kernel
theorem dX10_init_219 : decode cX10_init 219 = .ok (.aload_n 0, 1) := by decide +kernel
theorem dX10_init_220 : decode cX10_init 220 = .ok (.iconst 3, 1) := by decide +kernel
theorem dX10_init_221 : decode cX10_init 221 = .ok (.newarray .boolean, 2) := by decide +kernel
theorem dX10_init_223 : decode cX10_init 223 = .ok (.putfield 90, 3) := by decide +kernel
theorem dX10_init_226 : decode cX10_init 226 = .ok (.aload_n 0, 1) := by decide +kernel
theorem dX10_init_227 : decode cX10_init 227 = .ok (.getfield 20, 3) := by decide +kernel
theorem dX10_init_230 : decode cX10_init 230 = .ok (.iconst 0, 1) := by decide +kernel
theorem dX10_init_231 : decode cX10_init 231 = .ok (.iconst (-1), 1) := by decide +kernel
theorem dX10_init_232 : decode cX10_init 232 = .ok (.iastore, 1) := by decide +kernel
theorem dX10_init_233 : decode cX10_init 233 = .ok (.return_, 1) := by decide +kernel
theorem dX10_in_0 : decode cX10_in 0 = .ok (.iload_n 0, 1) := by decide +kernel
theorem dX10_in_1 : decode cX10_in 1 = .ok (.iload_n 1, 1) := by decide +kernel
theorem dX10_in_2 : decode cX10_in 2 = .ok (.if_icmp .lt 12, 3) := by decide +kernel
theorem dX10_in_5 : decode cX10_in 5 = .ok (.iload_n 0, 1) := by decide +kernel
theorem dX10_in_6 : decode cX10_in 6 = .ok (.iload_n 2, 1) := by decide +kernel
theorem dX10_in_7 : decode cX10_in 7 = .ok (.if_icmp .gt 7, 3) := by decide +kernel
theorem dX10_in_10 : decode cX10_in 10 = .ok (.iconst 1, 1) := by decide +kernel
theorem dX10_in_11 : decode cX10_in 11 = .ok (.goto 4, 3) := by decide +kernel
theorem dX10_in_14 : decode cX10_in 14 = .ok (.iconst 0, 1) := by decide +kernel
theorem dX10_in_15 : decode cX10_in 15 = .ok (.ireturn, 1) := by decide +kernel
theorem dX10_has_0 : decode cX10_has 0 = .ok (.iload_n 0, 1) := by decide +kernel
theorem dX10_has_1 : decode cX10_has 1 = .ok (.iload_n 1, 1) := by decide +kernel
theorem dX10_has_2 : decode cX10_has 2 = .ok (.ishr, 1) := by decide +kernel
theorem dX10_has_3 : decode cX10_has 3 = .ok (.iconst 1, 1) := by decide +kernel
theorem dX10_has_4 : decode cX10_has 4 = .ok (.iand, 1) := by decide +kernel
theorem dX10_has_5 : decode cX10_has 5 = .ok (.iconst 1, 1) := by decide +kernel
theorem dX10_has_6 : decode cX10_has 6 = .ok (.if_icmp .ne 7, 3) := by decide +kernel
theorem dX10_has_9 : decode cX10_has 9 = .ok (.iconst 1, 1) := by decide +kernel
theorem dX10_has_10 : decode cX10_has 10 = .ok (.goto 4, 3) := by decide +kernel
theorem dX10_has_13 : decode cX10_has 13 = .ok (.iconst 0, 1) := by decide +kernel
theorem dX10_has_14 : decode cX10_has 14 = .ok (.ireturn, 1) := by decide +kernel
theorem dX10_greater_0 : decode cX10_greater 0 = .ok (.iload_n 0, 1) := by decide +kernel
theorem dX10_greater_1 : decode cX10_greater 1 = .ok (.iload_n 1, 1) := by decide +kernel
theorem dX10_greater_2 : decode cX10_greater 2 = .ok (.if_icmp .le 7, 3) := by decide +kernel
theorem dX10_greater_5 : decode cX10_greater 5 = .ok (.iload_n 0, 1) := by decide +kernel
theorem dX10_greater_6 : decode cX10_greater 6 = .ok (.goto 4, 3) := by decide +kernel
theorem dX10_greater_9 : decode cX10_greater 9 = .ok (.iload_n 1, 1) := by decide +kernel
theorem dX10_greater_10 : decode cX10_greater 10 = .ok (.ireturn, 1) := by decide +kernel
theorem dX10_lesser_0 : decode cX10_lesser 0 = .ok (.iload_n 0, 1) := by decide +kernel
theorem dX10_lesser_1 : decode cX10_lesser 1 = .ok (.iload_n 1, 1) := by decide +kernel
theorem dX10_lesser_2 : decode cX10_lesser 2 = .ok (.if_icmp .ge 7, 3) := by decide +kernel
theorem dX10_lesser_5 : decode cX10_lesser 5 = .ok (.iload_n 0, 1) := by decide +kernel
theorem dX10_lesser_6 : decode cX10_lesser 6 = .ok (.goto 4, 3) := by decide +kernel
theorem dX10_lesser_9 : decode cX10_lesser 9 = .ok (.iload_n 1, 1) := by decide +kernel
theorem dX10_lesser_10 : decode cX10_lesser 10 = .ok (.ireturn, 1) := by decide +kernel
theorem dX10_ones_0 : decode cX10_ones 0 = .ok (.iconst 0, 1) := by decide +kernel
theorem dX10_ones_1 : decode cX10_ones 1 = .ok (.istore_n 1, 1) := by decide +kernel
theorem dX10_ones_2 : decode cX10_ones 2 = .ok (.iconst 0, 1) := by decide +kernel
theorem dX10_ones_3 : decode cX10_ones 3 = .ok (.istore_n 2, 1) := by decide +kernel
theorem dX10_ones_4 : decode cX10_ones 4 = .ok (.iload_n 2, 1) := by decide +kernel
theorem dX10_ones_5 : decode cX10_ones 5 = .ok (.bipush 9, 2) := by decide +kernel
theorem dX10_ones_7 : decode cX10_ones 7 = .ok (.if_icmp .ge 25, 3) := by decide +kernel
theorem dX10_ones_10 : decode cX10_ones 10 = .ok (.iload_n 1, 1) := by decide +kernel
theorem dX10_ones_11 : decode cX10_ones 11 = .ok (.iload_n 0, 1) := by decide +kernel
theorem dX10_ones_12 : decode cX10_ones 12 = .ok (.iload_n 2, 1) := by decide +kernel
theorem dX10_ones_13 : decode cX10_ones 13 = .ok (.invokestatic 98, 3) := by decide +kernel
theorem dX10_ones_16 : decode cX10_ones 16 = .ok (.ifCond .eq 7, 3) := by decide +kernel
theorem dX10_ones_19 : decode cX10_ones 19 = .ok (.iconst 1, 1) := by decide +kernel
theorem dX10_ones_20 : decode cX10_ones 20 = .ok (.goto 4, 3) := by decide +kernel
theorem dX10_ones_23 : decode cX10_ones 23 = .ok (.iconst 0, 1) := by decide +kernel
theorem dX10_ones_24 : decode cX10_ones 24 = .ok (.iadd, 1) := by decide +kernel
theorem dX10_ones_25 : decode cX10_ones 25 = .ok (.istore_n 1, 1) := by decide +kernel
theorem dX10_ones_26 : decode cX10_ones 26 = .ok (.iinc 2 1, 3) := by decide +kernel
theorem dX10_ones_29 : decode cX10_ones 29 = .ok (.goto (-25), 3) := by decide +kernel
theorem dX10_ones_32 : decode cX10_ones 32 = .ok (.iload_n 1, 1) := by decide +kernel
theorem dX10_ones_33 : decode cX10_ones 33 = .ok (.ireturn, 1) := by decide +kernel
theorem dX10_upwards_0 : decode cX10_upwards 0 = .ok (.iload_n 0, 1) := by decide +kernel
theorem dX10_upwards_1 : decode cX10_upwards 1 = .ok (.iload_n 1, 1) := by decide +kernel
theorem dX10_upwards_2 : decode cX10_upwards 2 = .ok (.iadd, 1) := by decide +kernel
theorem dX10_upwards_3 : decode cX10_upwards 3 = .ok (.iconst 1, 1) := by decide +kernel
theorem dX10_upwards_4 : decode cX10_upwards 4 = .ok (.isub, 1) := by decide +kernel
theorem dX10_upwards_5 : decode cX10_upwards 5 = .ok (.iload_n 1, 1) := by decide +kernel
theorem dX10_upwards_6 : decode cX10_upwards 6 = .ok (.idiv, 1) := by decide +kernel
theorem dX10_upwards_7 : decode cX10_upwards 7 = .ok (.ireturn, 1) := by decide +kernel
theorem dX10_copyRow_0 : decode cX10_copyRow 0 = .ok (.iconst 0, 1) := by decide +kernel
theorem dX10_copyRow_1 : decode cX10_copyRow 1 = .ok (.istore 4, 2) := by decide +kernel
theorem dX10_copyRow_3 : decode cX10_copyRow 3 = .ok (.iload 4, 2) := by decide +kernel
theorem dX10_copyRow_5 : decode cX10_copyRow 5 = .ok (.iload_n 1, 1) := by decide +kernel
theorem dX10_copyRow_6 : decode cX10_copyRow 6 = .ok (.if_icmp .ge 25, 3) := by decide +kernel
theorem dX10_copyRow_9 : decode cX10_copyRow 9 = .ok (.aload_n 0, 1) := by decide +kernel
theorem dX10_copyRow_10 : decode cX10_copyRow 10 = .ok (.iload_n 1, 1) := by decide +kernel
theorem dX10_copyRow_11 : decode cX10_copyRow 11 = .ok (.iload_n 3, 1) := by decide +kernel
theorem dX10_copyRow_12 : decode cX10_copyRow 12 = .ok (.imul, 1) := by decide +kernel
theorem dX10_copyRow_13 : decode cX10_copyRow 13 = .ok (.iload 4, 2) := by decide +kernel
theorem dX10_copyRow_15 : decode cX10_copyRow 15 = .ok (.iadd, 1) := by decide +kernel
theorem dX10_copyRow_16 : decode cX10_copyRow 16 = .ok (.aload_n 0, 1) := by decide +kernel
theorem dX10_copyRow_17 : decode cX10_copyRow 17 = .ok (.iload_n 1, 1) := by decide +kernel
theorem dX10_copyRow_18 : decode cX10_copyRow 18 = .ok (.iload_n 2, 1) := by decide +kernel
theorem dX10_copyRow_19 : decode cX10_copyRow 19 = .ok (.imul, 1) := by decide +kernel
theorem dX10_copyRow_20 : decode cX10_copyRow 20 = .ok (.iload 4, 2) := by decide +kernel
theorem dX10_copyRow_22 : decode cX10_copyRow 22 = .ok (.iadd, 1) := by decide +kernel
theorem dX10_copyRow_23 : decode cX10_copyRow 23 = .ok (.iaload, 1) := by decide +kernel
theorem dX10_copyRow_24 : decode cX10_copyRow 24 = .ok (.iastore, 1) := by decide +kernel
theorem dX10_copyRow_25 : decode cX10_copyRow 25 = .ok (.iinc 4 1, 3) := by decide +kernel
theorem dX10_copyRow_28 : decode cX10_copyRow 28 = .ok (.goto (-25), 3) := by decide +kernel
theorem dX10_copyRow_31 : decode cX10_copyRow 31 = .ok (.return_, 1) := by decide +kernel
theorem dX10_copyAll_0 : decode cX10_copyAll 0 = .ok (.iconst 0, 1) := by decide +kernel
theorem dX10_copyAll_1 : decode cX10_copyAll 1 = .ok (.istore_n 3, 1) := by decide +kernel
theorem dX10_copyAll_2 : decode cX10_copyAll 2 = .ok (.iload_n 3, 1) := by decide +kernel
theorem dX10_copyAll_3 : decode cX10_copyAll 3 = .ok (.sipush 600, 3) := by decide +kernel
theorem dX10_copyAll_6 : decode cX10_copyAll 6 = .ok (.if_icmp .ge 33, 3) := by decide +kernel
theorem dX10_copyAll_9 : decode cX10_copyAll 9 = .ok (.aload_n 0, 1) := by decide +kernel
theorem dX10_copyAll_10 : decode cX10_copyAll 10 = .ok (.getfield 7, 3) := by decide +kernel
theorem dX10_copyAll_13 : decode cX10_copyAll 13 = .ok (.sipush 600, 3) := by decide +kernel
theorem dX10_copyAll_16 : decode cX10_copyAll 16 = .ok (.iload_n 2, 1) := by decide +kernel
theorem dX10_copyAll_17 : decode cX10_copyAll 17 = .ok (.imul, 1) := by decide +kernel
theorem dX10_copyAll_18 : decode cX10_copyAll 18 = .ok (.iload_n 3, 1) := by decide +kernel
theorem dX10_copyAll_19 : decode cX10_copyAll 19 = .ok (.iadd, 1) := by decide +kernel
theorem dX10_copyAll_20 : decode cX10_copyAll 20 = .ok (.aload_n 0, 1) := by decide +kernel
theorem dX10_copyAll_21 : decode cX10_copyAll 21 = .ok (.getfield 7, 3) := by decide +kernel
theorem dX10_copyAll_24 : decode cX10_copyAll 24 = .ok (.sipush 600, 3) := by decide +kernel
theorem dX10_copyAll_27 : decode cX10_copyAll 27 = .ok (.iload_n 1, 1) := by decide +kernel
theorem dX10_copyAll_28 : decode cX10_copyAll 28 = .ok (.imul, 1) := by decide +kernel
theorem dX10_copyAll_29 : decode cX10_copyAll 29 = .ok (.iload_n 3, 1) := by decide +kernel
theorem dX10_copyAll_30 : decode cX10_copyAll 30 = .ok (.iadd, 1) := by decide +kernel
theorem dX10_copyAll_31 : decode cX10_copyAll 31 = .ok (.baload, 1) := by decide +kernel
theorem dX10_copyAll_32 : decode cX10_copyAll 32 = .ok (.bastore, 1) := by decide +kernel
theorem dX10_copyAll_33 : decode cX10_copyAll 33 = .ok (.iinc 3 1, 3) := by decide +kernel
theorem dX10_copyAll_36 : decode cX10_copyAll 36 = .ok (.goto (-34), 3) := by decide +kernel
theorem dX10_copyAll_39 : decode cX10_copyAll 39 = .ok (.aload_n 0, 1) := by decide +kernel
theorem dX10_copyAll_40 : decode cX10_copyAll 40 = .ok (.getfield 13, 3) := by decide +kernel
theorem dX10_copyAll_43 : decode cX10_copyAll 43 = .ok (.iconst 1, 1) := by decide +kernel
theorem dX10_copyAll_44 : decode cX10_copyAll 44 = .ok (.iload_n 1, 1) := by decide +kernel
theorem dX10_copyAll_45 : decode cX10_copyAll 45 = .ok (.iload_n 2, 1) := by decide +kernel
theorem dX10_copyAll_46 : decode cX10_copyAll 46 = .ok (.invokestatic 102, 3) := by decide +kernel
theorem dX10_copyAll_49 : decode cX10_copyAll 49 = .ok (.aload_n 0, 1) := by decide +kernel
theorem dX10_copyAll_50 : decode cX10_copyAll 50 = .ok (.getfield 17, 3) := by decide +kernel
theorem dX10_copyAll_53 : decode cX10_copyAll 53 = .ok (.iconst 1, 1) := by decide +kernel
theorem dX10_copyAll_54 : decode cX10_copyAll 54 = .ok (.iload_n 1, 1) := by decide +kernel
theorem dX10_copyAll_55 : decode cX10_copyAll 55 = .ok (.iload_n 2, 1) := by decide +kernel
theorem dX10_copyAll_56 : decode cX10_copyAll 56 = .ok (.invokestatic 102, 3) := by decide +kernel
theorem dX10_copyAll_59 : decode cX10_copyAll 59 = .ok (.aload_n 0, 1) := by decide +kernel
theorem dX10_copyAll_60 : decode cX10_copyAll 60 = .ok (.getfield 20, 3) := by decide +kernel
theorem dX10_copyAll_63 : decode cX10_copyAll 63 = .ok (.iconst 1, 1) := by decide +kernel
theorem dX10_copyAll_64 : decode cX10_copyAll 64 = .ok (.iload_n 1, 1) := by decide +kernel
theorem dX10_copyAll_65 : decode cX10_copyAll 65 = .ok (.iload_n 2, 1) := by decide +kernel
theorem dX10_copyAll_66 : decode cX10_copyAll 66 = .ok (.invokestatic 102, 3) := by decide +kernel
theorem dX10_copyAll_69 : decode cX10_copyAll 69 = .ok (.aload_n 0, 1) := by decide +kernel
theorem dX10_copyAll_70 : decode cX10_copyAll 70 = .ok (.getfield 23, 3) := by decide +kernel
theorem dX10_copyAll_73 : decode cX10_copyAll 73 = .ok (.iconst 4, 1) := by decide +kernel
theorem dX10_copyAll_74 : decode cX10_copyAll 74 = .ok (.iload_n 1, 1) := by decide +kernel
theorem dX10_copyAll_75 : decode cX10_copyAll 75 = .ok (.iload_n 2, 1) := by decide +kernel
theorem dX10_copyAll_76 : decode cX10_copyAll 76 = .ok (.invokestatic 102, 3) := by decide +kernel
theorem dX10_copyAll_79 : decode cX10_copyAll 79 = .ok (.aload_n 0, 1) := by decide +kernel
theorem dX10_copyAll_80 : decode cX10_copyAll 80 = .ok (.getfield 26, 3) := by decide +kernel
theorem dX10_copyAll_83 : decode cX10_copyAll 83 = .ok (.sipush 276, 3) := by decide +kernel
theorem dX10_copyAll_86 : decode cX10_copyAll 86 = .ok (.iload_n 1, 1) := by decide +kernel
theorem dX10_copyAll_87 : decode cX10_copyAll 87 = .ok (.iload_n 2, 1) := by decide +kernel
theorem dX10_copyAll_88 : decode cX10_copyAll 88 = .ok (.invokestatic 102, 3) := by decide +kernel
theorem dX10_copyAll_91 : decode cX10_copyAll 91 = .ok (.aload_n 0, 1) := by decide +kernel
theorem dX10_copyAll_92 : decode cX10_copyAll 92 = .ok (.getfield 29, 3) := by decide +kernel
theorem dX10_copyAll_95 : decode cX10_copyAll 95 = .ok (.sipush 162, 3) := by decide +kernel
theorem dX10_copyAll_98 : decode cX10_copyAll 98 = .ok (.iload_n 1, 1) := by decide +kernel
theorem dX10_copyAll_99 : decode cX10_copyAll 99 = .ok (.iload_n 2, 1) := by decide +kernel
theorem dX10_copyAll_100 : decode cX10_copyAll 100 = .ok (.invokestatic 102, 3) := by decide +kernel
theorem dX10_copyAll_103 : decode cX10_copyAll 103 = .ok (.aload_n 0, 1) := by decide +kernel
theorem dX10_copyAll_104 : decode cX10_copyAll 104 = .ok (.getfield 32, 3) := by decide +kernel
theorem dX10_copyAll_107 : decode cX10_copyAll 107 = .ok (.bipush 82, 2) := by decide +kernel
theorem dX10_copyAll_109 : decode cX10_copyAll 109 = .ok (.iload_n 1, 1) := by decide +kernel
theorem dX10_copyAll_110 : decode cX10_copyAll 110 = .ok (.iload_n 2, 1) := by decide +kernel
theorem dX10_copyAll_111 : decode cX10_copyAll 111 = .ok (.invokestatic 102, 3) := by decide +kernel
theorem dX10_copyAll_114 : decode cX10_copyAll 114 = .ok (.aload_n 0, 1) := by decide +kernel
theorem dX10_copyAll_115 : decode cX10_copyAll 115 = .ok (.getfield 35, 3) := by decide +kernel
theorem dX10_copyAll_118 : decode cX10_copyAll 118 = .ok (.bipush 62, 2) := by decide +kernel
theorem dX10_copyAll_120 : decode cX10_copyAll 120 = .ok (.iload_n 1, 1) := by decide +kernel
theorem dX10_copyAll_121 : decode cX10_copyAll 121 = .ok (.iload_n 2, 1) := by decide +kernel
theorem dX10_copyAll_122 : decode cX10_copyAll 122 = .ok (.invokestatic 102, 3) := by decide +kernel
theorem dX10_copyAll_125 : decode cX10_copyAll 125 = .ok (.return_, 1) := by decide +kernel
theorem dX10_is_0 : decode cX10_is 0 = .ok (.iload_n 2, 1) := by decide +kernel
theorem dX10_is_1 : decode cX10_is 1 = .ok (.iconst 0, 1) := by decide +kernel
theorem dX10_is_2 : decode cX10_is 2 = .ok (.aload_n 0, 1) := by decide +kernel
theorem dX10_is_3 : decode cX10_is 3 = .ok (.getfield 23, 3) := by decide +kernel
theorem dX10_is_6 : decode cX10_is 6 = .ok (.iload_n 1, 1) := by decide +kernel
theorem dX10_is_7 : decode cX10_is 7 = .ok (.iaload, 1) := by decide +kernel
theorem dX10_is_8 : decode cX10_is 8 = .ok (.iconst 1, 1) := by decide +kernel
theorem dX10_is_9 : decode cX10_is 9 = .ok (.isub, 1) := by decide +kernel
theorem dX10_is_10 : decode cX10_is 10 = .ok (.invokestatic 106, 3) := by decide +kernel
theorem dX10_is_13 : decode cX10_is 13 = .ok (.ireturn, 1) := by decide +kernel
theorem dX10_feed_0 : decode cX10_feed 0 = .ok (.aload_n 0, 1) := by decide +kernel
theorem dX10_feed_1 : decode cX10_feed 1 = .ok (.iconst 0, 1) := by decide +kernel
theorem dX10_feed_2 : decode cX10_feed 2 = .ok (.putfield 94, 3) := by decide +kernel
theorem dX10_feed_5 : decode cX10_feed 5 = .ok (.aload_n 0, 1) := by decide +kernel
theorem dX10_feed_6 : decode cX10_feed 6 = .ok (.getfield 13, 3) := by decide +kernel
theorem dX10_feed_9 : decode cX10_feed 9 = .ok (.iconst 0, 1) := by decide +kernel
theorem dX10_feed_10 : decode cX10_feed 10 = .ok (.iaload, 1) := by decide +kernel
theorem dX10_feed_11 : decode cX10_feed 11 = .ok (.bipush 20, 2) := by decide +kernel
theorem dX10_feed_13 : decode cX10_feed 13 = .ok (.iadd, 1) := by decide +kernel
theorem dX10_feed_14 : decode cX10_feed 14 = .ok (.sipush 600, 3) := by decide +kernel
theorem dX10_feed_17 : decode cX10_feed 17 = .ok (.if_icmp .le 5, 3) := by decide +kernel
theorem dX10_feed_20 : decode cX10_feed 20 = .ok (.iconst (-1), 1) := by decide +kernel
theorem dX10_feed_21 : decode cX10_feed 21 = .ok (.ireturn, 1) := by decide +kernel
theorem dX10_feed_22 : decode cX10_feed 22 = .ok (.aload_n 0, 1) := by decide +kernel
theorem dX10_feed_23 : decode cX10_feed 23 = .ok (.iload_n 1, 1) := by decide +kernel
theorem dX10_feed_24 : decode cX10_feed 24 = .ok (.invokevirtual 110, 3) := by decide +kernel
theorem dX10_feed_27 : decode cX10_feed 27 = .ok (.aload_n 0, 1) := by decide +kernel
theorem dX10_feed_28 : decode cX10_feed 28 = .ok (.iload_n 2, 1) := by decide +kernel
theorem dX10_feed_29 : decode cX10_feed 29 = .ok (.invokevirtual 110, 3) := by decide +kernel
theorem dX10_feed_32 : decode cX10_feed 32 = .ok (.aload_n 0, 1) := by decide +kernel
theorem dX10_feed_33 : decode cX10_feed 33 = .ok (.iload_n 3, 1) := by decide +kernel
theorem dX10_feed_34 : decode cX10_feed 34 = .ok (.invokevirtual 110, 3) := by decide +kernel
theorem dX10_feed_37 : decode cX10_feed 37 = .ok (.aload_n 0, 1) := by decide +kernel
theorem dX10_feed_38 : decode cX10_feed 38 = .ok (.iload 4, 2) := by decide +kernel
theorem dX10_feed_40 : decode cX10_feed 40 = .ok (.invokevirtual 110, 3) := by decide +kernel
theorem dX10_feed_43 : decode cX10_feed 43 = .ok (.aload_n 0, 1) := by decide +kernel
theorem dX10_feed_44 : decode cX10_feed 44 = .ok (.iload 5, 2) := by decide +kernel
theorem dX10_feed_46 : decode cX10_feed 46 = .ok (.invokevirtual 110, 3) := by decide +kernel
theorem dX10_feed_49 : decode cX10_feed 49 = .ok (.aload_n 0, 1) := by decide +kernel
theorem dX10_feed_50 : decode cX10_feed 50 = .ok (.getfield 13, 3) := by decide +kernel
theorem dX10_feed_53 : decode cX10_feed 53 = .ok (.iconst 0, 1) := by decide +kernel
theorem dX10_feed_54 : decode cX10_feed 54 = .ok (.iaload, 1) := by decide +kernel
theorem dX10_feed_55 : decode cX10_feed 55 = .ok (.ireturn, 1) := by decide +kernel
theorem dX10_four_0 : decode cX10_four 0 = .ok (.bipush 24, 2) := by decide +kernel
theorem dX10_four_2 : decode cX10_four 2 = .ok (.istore_n 2, 1) := by decide +kernel
theorem dX10_four_3 : decode cX10_four 3 = .ok (.iload_n 2, 1) := by decide +kernel
theorem dX10_four_4 : decode cX10_four 4 = .ok (.ifCond .lt 34, 3) := by decide +kernel
theorem dX10_four_7 : decode cX10_four 7 = .ok (.aload_n 0, 1) := by decide +kernel
theorem dX10_four_8 : decode cX10_four 8 = .ok (.getfield 7, 3) := by decide +kernel
theorem dX10_four_11 : decode cX10_four 11 = .ok (.aload_n 0, 1) := by decide +kernel
theorem dX10_four_12 : decode cX10_four 12 = .ok (.getfield 13, 3) := by decide +kernel
theorem dX10_four_15 : decode cX10_four 15 = .ok (.iconst 0, 1) := by decide +kernel
theorem dX10_four_16 : decode cX10_four 16 = .ok (.iaload, 1) := by decide +kernel
theorem dX10_four_17 : decode cX10_four 17 = .ok (.iload_n 1, 1) := by decide +kernel
theorem dX10_four_18 : decode cX10_four 18 = .ok (.iload_n 2, 1) := by decide +kernel
theorem dX10_four_19 : decode cX10_four 19 = .ok (.ishr, 1) := by decide +kernel
theorem dX10_four_20 : decode cX10_four 20 = .ok (.i2b, 1) := by decide +kernel
theorem dX10_four_21 : decode cX10_four 21 = .ok (.bastore, 1) := by decide +kernel
theorem dX10_four_22 : decode cX10_four 22 = .ok (.aload_n 0, 1) := by decide +kernel
theorem dX10_four_23 : decode cX10_four 23 = .ok (.getfield 13, 3) := by decide +kernel
theorem dX10_four_26 : decode cX10_four 26 = .ok (.iconst 0, 1) := by decide +kernel
theorem dX10_four_27 : decode cX10_four 27 = .ok (.dup2, 1) := by decide +kernel
theorem dX10_four_28 : decode cX10_four 28 = .ok (.iaload, 1) := by decide +kernel
theorem dX10_four_29 : decode cX10_four 29 = .ok (.iconst 1, 1) := by decide +kernel
theorem dX10_four_30 : decode cX10_four 30 = .ok (.iadd, 1) := by decide +kernel
theorem dX10_four_31 : decode cX10_four 31 = .ok (.iastore, 1) := by decide +kernel
theorem dX10_four_32 : decode cX10_four 32 = .ok (.iinc 2 (-8), 3) := by decide +kernel
theorem dX10_four_35 : decode cX10_four 35 = .ok (.goto (-32), 3) := by decide +kernel
theorem dX10_four_38 : decode cX10_four 38 = .ok (.return_, 1) := by decide +kernel
theorem dX10_end_0 : decode cX10_end 0 = .ok (.aload_n 0, 1) := by decide +kernel
theorem dX10_end_1 : decode cX10_end 1 = .ok (.iconst 0, 1) := by decide +kernel
theorem dX10_end_2 : decode cX10_end 2 = .ok (.putfield 94, 3) := by decide +kernel
theorem dX10_end_5 : decode cX10_end 5 = .ok (.iload_n 1, 1) := by decide +kernel
theorem dX10_end_6 : decode cX10_end 6 = .ok (.iconst 0, 1) := by decide +kernel
theorem dX10_end_7 : decode cX10_end 7 = .ok (.aload_n 0, 1) := by decide +kernel
theorem dX10_end_8 : decode cX10_end 8 = .ok (.getfield 13, 3) := by decide +kernel
theorem dX10_end_11 : decode cX10_end 11 = .ok (.iconst 0, 1) := by decide +kernel
theorem dX10_end_12 : decode cX10_end 12 = .ok (.iaload, 1) := by decide +kernel
theorem dX10_end_13 : decode cX10_end 13 = .ok (.invokestatic 106, 3) := by decide +kernel
theorem dX10_end_16 : decode cX10_end 16 = .ok (.ifCond .ne 5, 3) := by decide +kernel
theorem dX10_end_19 : decode cX10_end 19 = .ok (.iconst (-1), 1) := by decide +kernel
theorem dX10_end_20 : decode cX10_end 20 = .ok (.ireturn, 1) := by decide +kernel
theorem dX10_end_21 : decode cX10_end 21 = .ok (.aload_n 0, 1) := by decide +kernel
theorem dX10_end_22 : decode cX10_end 22 = .ok (.getfield 13, 3) := by decide +kernel
theorem dX10_end_25 : decode cX10_end 25 = .ok (.iconst 0, 1) := by decide +kernel
theorem dX10_end_26 : decode cX10_end 26 = .ok (.iload_n 1, 1) := by decide +kernel
theorem dX10_end_27 : decode cX10_end 27 = .ok (.iastore, 1) := by decide +kernel
theorem dX10_end_28 : decode cX10_end 28 = .ok (.iload_n 1, 1) := by decide +kernel
theorem dX10_end_29 : decode cX10_end 29 = .ok (.ireturn, 1) := by decide +kernel
theorem dX10_see_0 : decode cX10_see 0 = .ok (.aload_n 0, 1) := by decide +kernel
theorem dX10_see_1 : decode cX10_see 1 = .ok (.getfield 114, 3) := by decide +kernel
theorem dX10_see_4 : decode cX10_see 4 = .ok (.aload_n 0, 1) := by decide +kernel
theorem dX10_see_5 : decode cX10_see 5 = .ok (.getfield 117, 3) := by decide +kernel
theorem dX10_see_8 : decode cX10_see 8 = .ok (.if_icmp .ge 19, 3) := by decide +kernel
theorem dX10_see_11 : decode cX10_see 11 = .ok (.aload_n 0, 1) := by decide +kernel
theorem dX10_see_12 : decode cX10_see 12 = .ok (.getfield 7, 3) := by decide +kernel
theorem dX10_see_15 : decode cX10_see 15 = .ok (.aload_n 0, 1) := by decide +kernel
theorem dX10_see_16 : decode cX10_see 16 = .ok (.getfield 114, 3) := by decide +kernel
theorem dX10_see_19 : decode cX10_see 19 = .ok (.baload, 1) := by decide +kernel
theorem dX10_see_20 : decode cX10_see 20 = .ok (.sipush 255, 3) := by decide +kernel
theorem dX10_see_23 : decode cX10_see 23 = .ok (.iand, 1) := by decide +kernel
theorem dX10_see_24 : decode cX10_see 24 = .ok (.goto 4, 3) := by decide +kernel
theorem dX10_see_27 : decode cX10_see 27 = .ok (.iconst (-1), 1) := by decide +kernel
theorem dX10_see_28 : decode cX10_see 28 = .ok (.ireturn, 1) := by decide +kernel
theorem dX10_token_0 : decode cX10_token 0 = .ok (.aload_n 0, 1) := by decide +kernel
theorem dX10_token_1 : decode cX10_token 1 = .ok (.invokevirtual 120, 3) := by decide +kernel
theorem dX10_token_4 : decode cX10_token 4 = .ok (.bipush 10, 2) := by decide +kernel
theorem dX10_token_6 : decode cX10_token 6 = .ok (.if_icmp .eq 12, 3) := by decide +kernel
theorem dX10_token_9 : decode cX10_token 9 = .ok (.aload_n 0, 1) := by decide +kernel
theorem dX10_token_10 : decode cX10_token 10 = .ok (.invokevirtual 120, 3) := by decide +kernel
theorem dX10_token_13 : decode cX10_token 13 = .ok (.bipush 32, 2) := by decide +kernel
theorem dX10_token_15 : decode cX10_token 15 = .ok (.if_icmp .ne 16, 3) := by decide +kernel
theorem dX10_token_18 : decode cX10_token 18 = .ok (.aload_n 0, 1) := by decide +kernel
theorem dX10_token_19 : decode cX10_token 19 = .ok (.dup, 1) := by decide +kernel
theorem dX10_token_20 : decode cX10_token 20 = .ok (.getfield 114, 3) := by decide +kernel
theorem dX10_token_23 : decode cX10_token 23 = .ok (.iconst 1, 1) := by decide +kernel
theorem dX10_token_24 : decode cX10_token 24 = .ok (.iadd, 1) := by decide +kernel
theorem dX10_token_25 : decode cX10_token 25 = .ok (.putfield 114, 3) := by decide +kernel
theorem dX10_token_28 : decode cX10_token 28 = .ok (.goto (-28), 3) := by decide +kernel
theorem dX10_token_31 : decode cX10_token 31 = .ok (.aload_n 0, 1) := by decide +kernel
theorem dX10_token_32 : decode cX10_token 32 = .ok (.aload_n 0, 1) := by decide +kernel
theorem dX10_token_33 : decode cX10_token 33 = .ok (.getfield 114, 3) := by decide +kernel
theorem dX10_token_36 : decode cX10_token 36 = .ok (.putfield 124, 3) := by decide +kernel
theorem dX10_token_39 : decode cX10_token 39 = .ok (.aload_n 0, 1) := by decide +kernel
theorem dX10_token_40 : decode cX10_token 40 = .ok (.invokevirtual 120, 3) := by decide +kernel
theorem dX10_token_43 : decode cX10_token 43 = .ok (.istore_n 1, 1) := by decide +kernel
theorem dX10_token_44 : decode cX10_token 44 = .ok (.aload_n 0, 1) := by decide +kernel
theorem dX10_token_45 : decode cX10_token 45 = .ok (.lconst 0, 1) := by decide +kernel
theorem dX10_token_46 : decode cX10_token 46 = .ok (.putfield 127, 3) := by decide +kernel
theorem dX10_token_49 : decode cX10_token 49 = .ok (.iconst 0, 1) := by decide +kernel
theorem dX10_token_50 : decode cX10_token 50 = .ok (.istore_n 2, 1) := by decide +kernel
theorem dX10_token_51 : decode cX10_token 51 = .ok (.iload_n 1, 1) := by decide +kernel
theorem dX10_token_52 : decode cX10_token 52 = .ok (.ifCond .ge 11, 3) := by decide +kernel
theorem dX10_token_55 : decode cX10_token 55 = .ok (.aload_n 0, 1) := by decide +kernel
theorem dX10_token_56 : decode cX10_token 56 = .ok (.iconst 0, 1) := by decide +kernel
theorem dX10_token_57 : decode cX10_token 57 = .ok (.putfield 131, 3) := by decide +kernel
theorem dX10_token_60 : decode cX10_token 60 = .ok (.goto 206, 3) := by decide +kernel
theorem dX10_token_63 : decode cX10_token 63 = .ok (.iload_n 1, 1) := by decide +kernel
theorem dX10_token_64 : decode cX10_token 64 = .ok (.bipush 97, 2) := by decide +kernel
theorem dX10_token_66 : decode cX10_token 66 = .ok (.bipush 122, 2) := by decide +kernel
theorem dX10_token_68 : decode cX10_token 68 = .ok (.invokestatic 106, 3) := by decide +kernel
theorem dX10_token_71 : decode cX10_token 71 = .ok (.ifCond .eq 76, 3) := by decide +kernel
theorem dX10_token_74 : decode cX10_token 74 = .ok (.aload_n 0, 1) := by decide +kernel
theorem dX10_token_75 : decode cX10_token 75 = .ok (.invokevirtual 120, 3) := by decide +kernel
theorem dX10_token_78 : decode cX10_token 78 = .ok (.bipush 97, 2) := by decide +kernel
theorem dX10_token_80 : decode cX10_token 80 = .ok (.bipush 122, 2) := by decide +kernel
theorem dX10_token_82 : decode cX10_token 82 = .ok (.invokestatic 106, 3) := by decide +kernel
theorem dX10_token_85 : decode cX10_token 85 = .ok (.ifCond .eq 36, 3) := by decide +kernel
theorem dX10_token_88 : decode cX10_token 88 = .ok (.aload_n 0, 1) := by decide +kernel
theorem dX10_token_89 : decode cX10_token 89 = .ok (.aload_n 0, 1) := by decide +kernel
theorem dX10_token_90 : decode cX10_token 90 = .ok (.getfield 127, 3) := by decide +kernel
theorem dX10_token_93 : decode cX10_token 93 = .ok (.bipush 8, 2) := by decide +kernel
theorem dX10_token_95 : decode cX10_token 95 = .ok (.lshl, 1) := by decide +kernel
theorem dX10_token_96 : decode cX10_token 96 = .ok (.aload_n 0, 1) := by decide +kernel
theorem dX10_token_97 : decode cX10_token 97 = .ok (.invokevirtual 120, 3) := by decide +kernel
theorem dX10_token_100 : decode cX10_token 100 = .ok (.i2l, 1) := by decide +kernel
theorem dX10_token_101 : decode cX10_token 101 = .ok (.lor, 1) := by decide +kernel
theorem dX10_token_102 : decode cX10_token 102 = .ok (.putfield 127, 3) := by decide +kernel
theorem dX10_token_105 : decode cX10_token 105 = .ok (.aload_n 0, 1) := by decide +kernel
theorem dX10_token_106 : decode cX10_token 106 = .ok (.dup, 1) := by decide +kernel
theorem dX10_token_107 : decode cX10_token 107 = .ok (.getfield 114, 3) := by decide +kernel
theorem dX10_token_110 : decode cX10_token 110 = .ok (.iconst 1, 1) := by decide +kernel
theorem dX10_token_111 : decode cX10_token 111 = .ok (.iadd, 1) := by decide +kernel
theorem dX10_token_112 : decode cX10_token 112 = .ok (.putfield 114, 3) := by decide +kernel
theorem dX10_token_115 : decode cX10_token 115 = .ok (.iinc 2 1, 3) := by decide +kernel
theorem dX10_token_118 : decode cX10_token 118 = .ok (.goto (-44), 3) := by decide +kernel
theorem dX10_token_121 : decode cX10_token 121 = .ok (.aload_n 0, 1) := by decide +kernel
theorem dX10_token_122 : decode cX10_token 122 = .ok (.iload_n 2, 1) := by decide +kernel
theorem dX10_token_123 : decode cX10_token 123 = .ok (.bipush 8, 2) := by decide +kernel
theorem dX10_token_125 : decode cX10_token 125 = .ok (.if_icmp .le 7, 3) := by decide +kernel
theorem dX10_token_128 : decode cX10_token 128 = .ok (.lconst 0, 1) := by decide +kernel
theorem dX10_token_129 : decode cX10_token 129 = .ok (.goto 7, 3) := by decide +kernel
theorem dX10_token_132 : decode cX10_token 132 = .ok (.aload_n 0, 1) := by decide +kernel
theorem dX10_token_133 : decode cX10_token 133 = .ok (.getfield 127, 3) := by decide +kernel
theorem dX10_token_136 : decode cX10_token 136 = .ok (.putfield 127, 3) := by decide +kernel
theorem dX10_token_139 : decode cX10_token 139 = .ok (.aload_n 0, 1) := by decide +kernel
theorem dX10_token_140 : decode cX10_token 140 = .ok (.iconst 2, 1) := by decide +kernel
theorem dX10_token_141 : decode cX10_token 141 = .ok (.putfield 131, 3) := by decide +kernel
theorem dX10_token_144 : decode cX10_token 144 = .ok (.goto 122, 3) := by decide +kernel
theorem dX10_token_147 : decode cX10_token 147 = .ok (.iload_n 1, 1) := by decide +kernel
theorem dX10_token_148 : decode cX10_token 148 = .ok (.bipush 48, 2) := by decide +kernel
theorem dX10_token_150 : decode cX10_token 150 = .ok (.bipush 57, 2) := by decide +kernel
theorem dX10_token_152 : decode cX10_token 152 = .ok (.invokestatic 106, 3) := by decide +kernel
theorem dX10_token_155 : decode cX10_token 155 = .ok (.ifCond .eq 86, 3) := by decide +kernel
theorem dX10_token_158 : decode cX10_token 158 = .ok (.aload_n 0, 1) := by decide +kernel
theorem dX10_token_159 : decode cX10_token 159 = .ok (.iconst 0, 1) := by decide +kernel
theorem dX10_token_160 : decode cX10_token 160 = .ok (.putfield 134, 3) := by decide +kernel
theorem dX10_token_163 : decode cX10_token 163 = .ok (.aload_n 0, 1) := by decide +kernel
theorem dX10_token_164 : decode cX10_token 164 = .ok (.invokevirtual 120, 3) := by decide +kernel
theorem dX10_token_167 : decode cX10_token 167 = .ok (.bipush 48, 2) := by decide +kernel
theorem dX10_token_169 : decode cX10_token 169 = .ok (.bipush 57, 2) := by decide +kernel
theorem dX10_token_171 : decode cX10_token 171 = .ok (.invokestatic 106, 3) := by decide +kernel
theorem dX10_token_174 : decode cX10_token 174 = .ok (.ifCond .eq 50, 3) := by decide +kernel
theorem dX10_token_177 : decode cX10_token 177 = .ok (.aload_n 0, 1) := by decide +kernel
theorem dX10_token_178 : decode cX10_token 178 = .ok (.iload_n 2, 1) := by decide +kernel
theorem dX10_token_179 : decode cX10_token 179 = .ok (.iconst 2, 1) := by decide +kernel
theorem dX10_token_180 : decode cX10_token 180 = .ok (.if_icmp .ge 21, 3) := by decide +kernel
theorem dX10_token_183 : decode cX10_token 183 = .ok (.bipush 10, 2) := by decide +kernel
theorem dX10_token_185 : decode cX10_token 185 = .ok (.aload_n 0, 1) := by decide +kernel
theorem dX10_token_186 : decode cX10_token 186 = .ok (.getfield 134, 3) := by decide +kernel
theorem dX10_token_189 : decode cX10_token 189 = .ok (.imul, 1) := by decide +kernel
theorem dX10_token_190 : decode cX10_token 190 = .ok (.aload_n 0, 1) := by decide +kernel
theorem dX10_token_191 : decode cX10_token 191 = .ok (.invokevirtual 120, 3) := by decide +kernel
theorem dX10_token_194 : decode cX10_token 194 = .ok (.iadd, 1) := by decide +kernel
theorem dX10_token_195 : decode cX10_token 195 = .ok (.bipush 48, 2) := by decide +kernel
theorem dX10_token_197 : decode cX10_token 197 = .ok (.isub, 1) := by decide +kernel
theorem dX10_token_198 : decode cX10_token 198 = .ok (.goto 7, 3) := by decide +kernel
theorem dX10_token_201 : decode cX10_token 201 = .ok (.aload_n 0, 1) := by decide +kernel
theorem dX10_token_202 : decode cX10_token 202 = .ok (.getfield 134, 3) := by decide +kernel
theorem dX10_token_205 : decode cX10_token 205 = .ok (.putfield 134, 3) := by decide +kernel
theorem dX10_token_208 : decode cX10_token 208 = .ok (.aload_n 0, 1) := by decide +kernel
theorem dX10_token_209 : decode cX10_token 209 = .ok (.dup, 1) := by decide +kernel
theorem dX10_token_210 : decode cX10_token 210 = .ok (.getfield 114, 3) := by decide +kernel
theorem dX10_token_213 : decode cX10_token 213 = .ok (.iconst 1, 1) := by decide +kernel
theorem dX10_token_214 : decode cX10_token 214 = .ok (.iadd, 1) := by decide +kernel
theorem dX10_token_215 : decode cX10_token 215 = .ok (.putfield 114, 3) := by decide +kernel
theorem dX10_token_218 : decode cX10_token 218 = .ok (.iinc 2 1, 3) := by decide +kernel
theorem dX10_token_221 : decode cX10_token 221 = .ok (.goto (-58), 3) := by decide +kernel
theorem dX10_token_224 : decode cX10_token 224 = .ok (.aload_n 0, 1) := by decide +kernel
theorem dX10_token_225 : decode cX10_token 225 = .ok (.iload_n 2, 1) := by decide +kernel
theorem dX10_token_226 : decode cX10_token 226 = .ok (.iconst 2, 1) := by decide +kernel
theorem dX10_token_227 : decode cX10_token 227 = .ok (.if_icmp .le 7, 3) := by decide +kernel
theorem dX10_token_230 : decode cX10_token 230 = .ok (.iconst 1, 1) := by decide +kernel
theorem dX10_token_231 : decode cX10_token 231 = .ok (.goto 4, 3) := by decide +kernel
theorem dX10_token_234 : decode cX10_token 234 = .ok (.iconst 3, 1) := by decide +kernel
theorem dX10_token_235 : decode cX10_token 235 = .ok (.putfield 131, 3) := by decide +kernel
theorem dX10_token_238 : decode cX10_token 238 = .ok (.goto 28, 3) := by decide +kernel
theorem dX10_token_241 : decode cX10_token 241 = .ok (.aload_n 0, 1) := by decide +kernel
theorem dX10_token_242 : decode cX10_token 242 = .ok (.dup, 1) := by decide +kernel
theorem dX10_token_243 : decode cX10_token 243 = .ok (.getfield 114, 3) := by decide +kernel
theorem dX10_token_246 : decode cX10_token 246 = .ok (.iconst 1, 1) := by decide +kernel
theorem dX10_token_247 : decode cX10_token 247 = .ok (.iadd, 1) := by decide +kernel
theorem dX10_token_248 : decode cX10_token 248 = .ok (.putfield 114, 3) := by decide +kernel
theorem dX10_token_251 : decode cX10_token 251 = .ok (.aload_n 0, 1) := by decide +kernel
theorem dX10_token_252 : decode cX10_token 252 = .ok (.iload_n 1, 1) := by decide +kernel
theorem dX10_token_253 : decode cX10_token 253 = .ok (.bipush 59, 2) := by decide +kernel
theorem dX10_token_255 : decode cX10_token 255 = .ok (.if_icmp .ne 7, 3) := by decide +kernel
theorem dX10_token_258 : decode cX10_token 258 = .ok (.iconst 4, 1) := by decide +kernel
theorem dX10_token_259 : decode cX10_token 259 = .ok (.goto 4, 3) := by decide +kernel
theorem dX10_token_262 : decode cX10_token 262 = .ok (.iconst 1, 1) := by decide +kernel
theorem dX10_token_263 : decode cX10_token 263 = .ok (.putfield 131, 3) := by decide +kernel
theorem dX10_token_266 : decode cX10_token 266 = .ok (.return_, 1) := by decide +kernel
theorem dX10_fails_0 : decode cX10_fails 0 = .ok (.aload_n 0, 1) := by decide +kernel
theorem dX10_fails_1 : decode cX10_fails 1 = .ok (.aload_n 0, 1) := by decide +kernel
theorem dX10_fails_2 : decode cX10_fails 2 = .ok (.getfield 124, 3) := by decide +kernel
theorem dX10_fails_5 : decode cX10_fails 5 = .ok (.putfield 137, 3) := by decide +kernel
theorem dX10_fails_8 : decode cX10_fails 8 = .ok (.iconst 0, 1) := by decide +kernel
theorem dX10_fails_9 : decode cX10_fails 9 = .ok (.ireturn, 1) := by decide +kernel
theorem dX10_later_0 : decode cX10_later 0 = .ok (.aload_n 0, 1) := by decide +kernel
theorem dX10_later_1 : decode cX10_later 1 = .ok (.getfield 140, 3) := by decide +kernel
theorem dX10_later_4 : decode cX10_later 4 = .ok (.ifCond .eq 27, 3) := by decide +kernel
theorem dX10_later_7 : decode cX10_later 7 = .ok (.iload_n 2, 1) := by decide +kernel
theorem dX10_later_8 : decode cX10_later 8 = .ok (.aload_n 0, 1) := by decide +kernel
theorem dX10_later_9 : decode cX10_later 9 = .ok (.getfield 143, 3) := by decide +kernel
theorem dX10_later_12 : decode cX10_later 12 = .ok (.if_icmp .lt 19, 3) := by decide +kernel
theorem dX10_later_15 : decode cX10_later 15 = .ok (.iload_n 2, 1) := by decide +kernel
theorem dX10_later_16 : decode cX10_later 16 = .ok (.aload_n 0, 1) := by decide +kernel
theorem dX10_later_17 : decode cX10_later 17 = .ok (.getfield 143, 3) := by decide +kernel
theorem dX10_later_20 : decode cX10_later 20 = .ok (.if_icmp .ne 21, 3) := by decide +kernel
theorem dX10_later_23 : decode cX10_later 23 = .ok (.iload_n 1, 1) := by decide +kernel
theorem dX10_later_24 : decode cX10_later 24 = .ok (.aload_n 0, 1) := by decide +kernel
theorem dX10_later_25 : decode cX10_later 25 = .ok (.getfield 140, 3) := by decide +kernel
theorem dX10_later_28 : decode cX10_later 28 = .ok (.if_icmp .ge 13, 3) := by decide +kernel
theorem dX10_later_31 : decode cX10_later 31 = .ok (.aload_n 0, 1) := by decide +kernel
theorem dX10_later_32 : decode cX10_later 32 = .ok (.iload_n 1, 1) := by decide +kernel
theorem dX10_later_33 : decode cX10_later 33 = .ok (.putfield 140, 3) := by decide +kernel
theorem dX10_later_36 : decode cX10_later 36 = .ok (.aload_n 0, 1) := by decide +kernel
theorem dX10_later_37 : decode cX10_later 37 = .ok (.iload_n 2, 1) := by decide +kernel
theorem dX10_later_38 : decode cX10_later 38 = .ok (.putfield 143, 3) := by decide +kernel
theorem dX10_later_41 : decode cX10_later 41 = .ok (.return_, 1) := by decide +kernel
theorem dX10_takeBut_0 : decode cX10_takeBut 0 = .ok (.aload_n 0, 1) := by decide +kernel
theorem dX10_takeBut_1 : decode cX10_takeBut 1 = .ok (.getfield 131, 3) := by decide +kernel
theorem dX10_takeBut_4 : decode cX10_takeBut 4 = .ok (.iconst 3, 1) := by decide +kernel
theorem dX10_takeBut_5 : decode cX10_takeBut 5 = .ok (.if_icmp .eq 8, 3) := by decide +kernel
theorem dX10_takeBut_8 : decode cX10_takeBut 8 = .ok (.aload_n 0, 1) := by decide +kernel
theorem dX10_takeBut_9 : decode cX10_takeBut 9 = .ok (.invokevirtual 146, 3) := by decide +kernel
theorem dX10_takeBut_12 : decode cX10_takeBut 12 = .ok (.ireturn, 1) := by decide +kernel
theorem dX10_takeBut_13 : decode cX10_takeBut 13 = .ok (.aload_n 0, 1) := by decide +kernel
theorem dX10_takeBut_14 : decode cX10_takeBut 14 = .ok (.getfield 41, 3) := by decide +kernel
theorem dX10_takeBut_17 : decode cX10_takeBut 17 = .ok (.iload_n 1, 1) := by decide +kernel
theorem dX10_takeBut_18 : decode cX10_takeBut 18 = .ok (.aload_n 0, 1) := by decide +kernel
theorem dX10_takeBut_19 : decode cX10_takeBut 19 = .ok (.getfield 134, 3) := by decide +kernel
theorem dX10_takeBut_22 : decode cX10_takeBut 22 = .ok (.iastore, 1) := by decide +kernel
theorem dX10_takeBut_23 : decode cX10_takeBut 23 = .ok (.aload_n 0, 1) := by decide +kernel
theorem dX10_takeBut_24 : decode cX10_takeBut 24 = .ok (.getfield 134, 3) := by decide +kernel
theorem dX10_takeBut_27 : decode cX10_takeBut 27 = .ok (.iload_n 2, 1) := by decide +kernel
theorem dX10_takeBut_28 : decode cX10_takeBut 28 = .ok (.iload_n 3, 1) := by decide +kernel
theorem dX10_takeBut_29 : decode cX10_takeBut 29 = .ok (.invokestatic 106, 3) := by decide +kernel
theorem dX10_takeBut_32 : decode cX10_takeBut 32 = .ok (.ifCond .eq 12, 3) := by decide +kernel
theorem dX10_takeBut_35 : decode cX10_takeBut 35 = .ok (.aload_n 0, 1) := by decide +kernel
theorem dX10_takeBut_36 : decode cX10_takeBut 36 = .ok (.getfield 134, 3) := by decide +kernel
theorem dX10_takeBut_39 : decode cX10_takeBut 39 = .ok (.iload 4, 2) := by decide +kernel
theorem dX10_takeBut_41 : decode cX10_takeBut 41 = .ok (.if_icmp .ne 17, 3) := by decide +kernel
theorem dX10_takeBut_44 : decode cX10_takeBut 44 = .ok (.aload_n 0, 1) := by decide +kernel
theorem dX10_takeBut_45 : decode cX10_takeBut 45 = .ok (.iconst 2, 1) := by decide +kernel
theorem dX10_takeBut_46 : decode cX10_takeBut 46 = .ok (.aload_n 0, 1) := by decide +kernel
theorem dX10_takeBut_47 : decode cX10_takeBut 47 = .ok (.getfield 124, 3) := by decide +kernel
theorem dX10_takeBut_50 : decode cX10_takeBut 50 = .ok (.invokevirtual 150, 3) := by decide +kernel
theorem dX10_takeBut_53 : decode cX10_takeBut 53 = .ok (.aload_n 0, 1) := by decide +kernel
theorem dX10_takeBut_54 : decode cX10_takeBut 54 = .ok (.iconst 0, 1) := by decide +kernel
theorem dX10_takeBut_55 : decode cX10_takeBut 55 = .ok (.putfield 154, 3) := by decide +kernel
theorem dX10_takeBut_58 : decode cX10_takeBut 58 = .ok (.aload_n 0, 1) := by decide +kernel
theorem dX10_takeBut_59 : decode cX10_takeBut 59 = .ok (.invokevirtual 158, 3) := by decide +kernel
theorem dX10_takeBut_62 : decode cX10_takeBut 62 = .ok (.iconst 1, 1) := by decide +kernel
theorem dX10_takeBut_63 : decode cX10_takeBut 63 = .ok (.ireturn, 1) := by decide +kernel
theorem dX10_take_0 : decode cX10_take 0 = .ok (.aload_n 0, 1) := by decide +kernel
theorem dX10_take_1 : decode cX10_take 1 = .ok (.iload_n 1, 1) := by decide +kernel
theorem dX10_take_2 : decode cX10_take 2 = .ok (.iload_n 2, 1) := by decide +kernel
theorem dX10_take_3 : decode cX10_take 3 = .ok (.iload_n 3, 1) := by decide +kernel
theorem dX10_take_4 : decode cX10_take 4 = .ok (.iconst (-1), 1) := by decide +kernel
theorem dX10_take_5 : decode cX10_take 5 = .ok (.invokevirtual 161, 3) := by decide +kernel
theorem dX10_take_8 : decode cX10_take 8 = .ok (.ireturn, 1) := by decide +kernel
theorem dX10_full_0 : decode cX10_full 0 = .ok (.aload_n 0, 1) := by decide +kernel
theorem dX10_full_1 : decode cX10_full 1 = .ok (.getfield 38, 3) := by decide +kernel
theorem dX10_full_4 : decode cX10_full 4 = .ok (.iload_n 1, 1) := by decide +kernel
theorem dX10_full_5 : decode cX10_full 5 = .ok (.iaload, 1) := by decide +kernel
theorem dX10_full_6 : decode cX10_full 6 = .ok (.iload_n 2, 1) := by decide +kernel
theorem dX10_full_7 : decode cX10_full 7 = .ok (.if_icmp .ne 9, 3) := by decide +kernel
theorem dX10_full_10 : decode cX10_full 10 = .ok (.aload_n 0, 1) := by decide +kernel
theorem dX10_full_11 : decode cX10_full 11 = .ok (.iconst 3, 1) := by decide +kernel
theorem dX10_full_12 : decode cX10_full 12 = .ok (.iload_n 3, 1) := by decide +kernel
theorem dX10_full_13 : decode cX10_full 13 = .ok (.invokevirtual 150, 3) := by decide +kernel
theorem dX10_full_16 : decode cX10_full 16 = .ok (.return_, 1) := by decide +kernel
theorem dX10_plainLine_0 : decode cX10_plainLine 0 = .ok (.aload_n 0, 1) := by decide +kernel
theorem dX10_plainLine_1 : decode cX10_plainLine 1 = .ok (.iconst 0, 1) := by decide +kernel
theorem dX10_plainLine_2 : decode cX10_plainLine 2 = .ok (.iload_n 2, 1) := by decide +kernel
theorem dX10_plainLine_3 : decode cX10_plainLine 3 = .ok (.iload_n 3, 1) := by decide +kernel
theorem dX10_plainLine_4 : decode cX10_plainLine 4 = .ok (.invokevirtual 165, 3) := by decide +kernel
theorem dX10_plainLine_7 : decode cX10_plainLine 7 = .ok (.ifCond .ne 5, 3) := by decide +kernel
theorem dX10_plainLine_10 : decode cX10_plainLine 10 = .ok (.iconst 0, 1) := by decide +kernel
theorem dX10_plainLine_11 : decode cX10_plainLine 11 = .ok (.ireturn, 1) := by decide +kernel
theorem dX10_plainLine_12 : decode cX10_plainLine 12 = .ok (.aload_n 0, 1) := by decide +kernel
theorem dX10_plainLine_13 : decode cX10_plainLine 13 = .ok (.getfield 38, 3) := by decide +kernel
theorem dX10_plainLine_16 : decode cX10_plainLine 16 = .ok (.iload_n 1, 1) := by decide +kernel
theorem dX10_plainLine_17 : decode cX10_plainLine 17 = .ok (.aload_n 0, 1) := by decide +kernel
theorem dX10_plainLine_18 : decode cX10_plainLine 18 = .ok (.getfield 41, 3) := by decide +kernel
theorem dX10_plainLine_21 : decode cX10_plainLine 21 = .ok (.iconst 0, 1) := by decide +kernel
theorem dX10_plainLine_22 : decode cX10_plainLine 22 = .ok (.iaload, 1) := by decide +kernel
theorem dX10_plainLine_23 : decode cX10_plainLine 23 = .ok (.iastore, 1) := by decide +kernel
theorem dX10_plainLine_24 : decode cX10_plainLine 24 = .ok (.iconst 1, 1) := by decide +kernel
theorem dX10_plainLine_25 : decode cX10_plainLine 25 = .ok (.ireturn, 1) := by decide +kernel
theorem dX10_seamLine_0 : decode cX10_seamLine 0 = .ok (.aload_n 0, 1) := by decide +kernel
theorem dX10_seamLine_1 : decode cX10_seamLine 1 = .ok (.iconst 0, 1) := by decide +kernel
theorem dX10_seamLine_2 : decode cX10_seamLine 2 = .ok (.iconst 1, 1) := by decide +kernel
theorem dX10_seamLine_3 : decode cX10_seamLine 3 = .ok (.bipush 9, 2) := by decide +kernel
theorem dX10_seamLine_5 : decode cX10_seamLine 5 = .ok (.invokevirtual 165, 3) := by decide +kernel
theorem dX10_seamLine_8 : decode cX10_seamLine 8 = .ok (.ifCond .eq 24, 3) := by decide +kernel
theorem dX10_seamLine_11 : decode cX10_seamLine 11 = .ok (.aload_n 0, 1) := by decide +kernel
theorem dX10_seamLine_12 : decode cX10_seamLine 12 = .ok (.iconst 1, 1) := by decide +kernel
theorem dX10_seamLine_13 : decode cX10_seamLine 13 = .ok (.iconst 0, 1) := by decide +kernel
theorem dX10_seamLine_14 : decode cX10_seamLine 14 = .ok (.iconst 3, 1) := by decide +kernel
theorem dX10_seamLine_15 : decode cX10_seamLine 15 = .ok (.invokevirtual 165, 3) := by decide +kernel
theorem dX10_seamLine_18 : decode cX10_seamLine 18 = .ok (.ifCond .eq 14, 3) := by decide +kernel
theorem dX10_seamLine_21 : decode cX10_seamLine 21 = .ok (.aload_n 0, 1) := by decide +kernel
theorem dX10_seamLine_22 : decode cX10_seamLine 22 = .ok (.iconst 2, 1) := by decide +kernel
theorem dX10_seamLine_23 : decode cX10_seamLine 23 = .ok (.iconst 0, 1) := by decide +kernel
theorem dX10_seamLine_24 : decode cX10_seamLine 24 = .ok (.bipush 9, 2) := by decide +kernel
theorem dX10_seamLine_26 : decode cX10_seamLine 26 = .ok (.invokevirtual 165, 3) := by decide +kernel
theorem dX10_seamLine_29 : decode cX10_seamLine 29 = .ok (.ifCond .ne 5, 3) := by decide +kernel
theorem dX10_seamLine_32 : decode cX10_seamLine 32 = .ok (.iconst 0, 1) := by decide +kernel
theorem dX10_seamLine_33 : decode cX10_seamLine 33 = .ok (.ireturn, 1) := by decide +kernel
theorem dX10_seamLine_34 : decode cX10_seamLine 34 = .ok (.aload_n 0, 1) := by decide +kernel
theorem dX10_seamLine_35 : decode cX10_seamLine 35 = .ok (.getfield 38, 3) := by decide +kernel
theorem dX10_seamLine_38 : decode cX10_seamLine 38 = .ok (.iconst 0, 1) := by decide +kernel
theorem dX10_seamLine_39 : decode cX10_seamLine 39 = .ok (.iaload, 1) := by decide +kernel
theorem dX10_seamLine_40 : decode cX10_seamLine 40 = .ok (.istore_n 1, 1) := by decide +kernel
theorem dX10_seamLine_41 : decode cX10_seamLine 41 = .ok (.iload_n 1, 1) := by decide +kernel
theorem dX10_seamLine_42 : decode cX10_seamLine 42 = .ok (.bipush 9, 2) := by decide +kernel
theorem dX10_seamLine_44 : decode cX10_seamLine 44 = .ok (.if_icmp .ge 57, 3) := by decide +kernel
theorem dX10_seamLine_47 : decode cX10_seamLine 47 = .ok (.aload_n 0, 1) := by decide +kernel
theorem dX10_seamLine_48 : decode cX10_seamLine 48 = .ok (.getfield 38, 3) := by decide +kernel
theorem dX10_seamLine_51 : decode cX10_seamLine 51 = .ok (.iconst 2, 1) := by decide +kernel
theorem dX10_seamLine_52 : decode cX10_seamLine 52 = .ok (.iload_n 1, 1) := by decide +kernel
theorem dX10_seamLine_53 : decode cX10_seamLine 53 = .ok (.iadd, 1) := by decide +kernel
theorem dX10_seamLine_54 : decode cX10_seamLine 54 = .ok (.aload_n 0, 1) := by decide +kernel
theorem dX10_seamLine_55 : decode cX10_seamLine 55 = .ok (.getfield 41, 3) := by decide +kernel
theorem dX10_seamLine_58 : decode cX10_seamLine 58 = .ok (.iconst 0, 1) := by decide +kernel
theorem dX10_seamLine_59 : decode cX10_seamLine 59 = .ok (.iaload, 1) := by decide +kernel
theorem dX10_seamLine_60 : decode cX10_seamLine 60 = .ok (.iastore, 1) := by decide +kernel
theorem dX10_seamLine_61 : decode cX10_seamLine 61 = .ok (.aload_n 0, 1) := by decide +kernel
theorem dX10_seamLine_62 : decode cX10_seamLine 62 = .ok (.getfield 38, 3) := by decide +kernel
theorem dX10_seamLine_65 : decode cX10_seamLine 65 = .ok (.bipush 11, 2) := by decide +kernel
theorem dX10_seamLine_67 : decode cX10_seamLine 67 = .ok (.iload_n 1, 1) := by decide +kernel
theorem dX10_seamLine_68 : decode cX10_seamLine 68 = .ok (.iadd, 1) := by decide +kernel
theorem dX10_seamLine_69 : decode cX10_seamLine 69 = .ok (.aload_n 0, 1) := by decide +kernel
theorem dX10_seamLine_70 : decode cX10_seamLine 70 = .ok (.getfield 41, 3) := by decide +kernel
theorem dX10_seamLine_73 : decode cX10_seamLine 73 = .ok (.iconst 1, 1) := by decide +kernel
theorem dX10_seamLine_74 : decode cX10_seamLine 74 = .ok (.iaload, 1) := by decide +kernel
theorem dX10_seamLine_75 : decode cX10_seamLine 75 = .ok (.iastore, 1) := by decide +kernel
theorem dX10_seamLine_76 : decode cX10_seamLine 76 = .ok (.aload_n 0, 1) := by decide +kernel
theorem dX10_seamLine_77 : decode cX10_seamLine 77 = .ok (.getfield 38, 3) := by decide +kernel
theorem dX10_seamLine_80 : decode cX10_seamLine 80 = .ok (.bipush 20, 2) := by decide +kernel
theorem dX10_seamLine_82 : decode cX10_seamLine 82 = .ok (.iload_n 1, 1) := by decide +kernel
theorem dX10_seamLine_83 : decode cX10_seamLine 83 = .ok (.iadd, 1) := by decide +kernel
theorem dX10_seamLine_84 : decode cX10_seamLine 84 = .ok (.aload_n 0, 1) := by decide +kernel
theorem dX10_seamLine_85 : decode cX10_seamLine 85 = .ok (.getfield 41, 3) := by decide +kernel
theorem dX10_seamLine_88 : decode cX10_seamLine 88 = .ok (.iconst 2, 1) := by decide +kernel
theorem dX10_seamLine_89 : decode cX10_seamLine 89 = .ok (.iaload, 1) := by decide +kernel
theorem dX10_seamLine_90 : decode cX10_seamLine 90 = .ok (.iastore, 1) := by decide +kernel
theorem dX10_seamLine_91 : decode cX10_seamLine 91 = .ok (.aload_n 0, 1) := by decide +kernel
theorem dX10_seamLine_92 : decode cX10_seamLine 92 = .ok (.getfield 38, 3) := by decide +kernel
theorem dX10_seamLine_95 : decode cX10_seamLine 95 = .ok (.iconst 0, 1) := by decide +kernel
theorem dX10_seamLine_96 : decode cX10_seamLine 96 = .ok (.dup2, 1) := by decide +kernel
theorem dX10_seamLine_97 : decode cX10_seamLine 97 = .ok (.iaload, 1) := by decide +kernel
theorem dX10_seamLine_98 : decode cX10_seamLine 98 = .ok (.iconst 1, 1) := by decide +kernel
theorem dX10_seamLine_99 : decode cX10_seamLine 99 = .ok (.iadd, 1) := by decide +kernel
theorem dX10_seamLine_100 : decode cX10_seamLine 100 = .ok (.iastore, 1) := by decide +kernel
theorem dX10_seamLine_101 : decode cX10_seamLine 101 = .ok (.iconst 1, 1) := by decide +kernel
theorem dX10_seamLine_102 : decode cX10_seamLine 102 = .ok (.ireturn, 1) := by decide +kernel
theorem dX10_afterLine_0 : decode cX10_afterLine 0 = .ok (.aload_n 0, 1) := by decide +kernel
theorem dX10_afterLine_1 : decode cX10_afterLine 1 = .ok (.iconst 0, 1) := by decide +kernel
theorem dX10_afterLine_2 : decode cX10_afterLine 2 = .ok (.iconst 0, 1) := by decide +kernel
theorem dX10_afterLine_3 : decode cX10_afterLine 3 = .ok (.bipush 8, 2) := by decide +kernel
theorem dX10_afterLine_5 : decode cX10_afterLine 5 = .ok (.invokevirtual 165, 3) := by decide +kernel
theorem dX10_afterLine_8 : decode cX10_afterLine 8 = .ok (.ifCond .eq 20, 3) := by decide +kernel
theorem dX10_afterLine_11 : decode cX10_afterLine 11 = .ok (.aload_n 0, 1) := by decide +kernel
theorem dX10_afterLine_12 : decode cX10_afterLine 12 = .ok (.iconst 1, 1) := by decide +kernel
theorem dX10_afterLine_13 : decode cX10_afterLine 13 = .ok (.iconst 0, 1) := by decide +kernel
theorem dX10_afterLine_14 : decode cX10_afterLine 14 = .ok (.bipush 8, 2) := by decide +kernel
theorem dX10_afterLine_16 : decode cX10_afterLine 16 = .ok (.aload_n 0, 1) := by decide +kernel
theorem dX10_afterLine_17 : decode cX10_afterLine 17 = .ok (.getfield 41, 3) := by decide +kernel
theorem dX10_afterLine_20 : decode cX10_afterLine 20 = .ok (.iconst 0, 1) := by decide +kernel
theorem dX10_afterLine_21 : decode cX10_afterLine 21 = .ok (.iaload, 1) := by decide +kernel
theorem dX10_afterLine_22 : decode cX10_afterLine 22 = .ok (.invokevirtual 161, 3) := by decide +kernel
theorem dX10_afterLine_25 : decode cX10_afterLine 25 = .ok (.ifCond .ne 5, 3) := by decide +kernel
theorem dX10_afterLine_28 : decode cX10_afterLine 28 = .ok (.iconst 0, 1) := by decide +kernel
theorem dX10_afterLine_29 : decode cX10_afterLine 29 = .ok (.ireturn, 1) := by decide +kernel
theorem dX10_afterLine_30 : decode cX10_afterLine 30 = .ok (.aload_n 0, 1) := by decide +kernel
theorem dX10_afterLine_31 : decode cX10_afterLine 31 = .ok (.aload_n 0, 1) := by decide +kernel
theorem dX10_afterLine_32 : decode cX10_afterLine 32 = .ok (.getfield 168, 3) := by decide +kernel
theorem dX10_afterLine_35 : decode cX10_afterLine 35 = .ok (.aload_n 0, 1) := by decide +kernel
theorem dX10_afterLine_36 : decode cX10_afterLine 36 = .ok (.getfield 41, 3) := by decide +kernel
theorem dX10_afterLine_39 : decode cX10_afterLine 39 = .ok (.iconst 0, 1) := by decide +kernel
theorem dX10_afterLine_40 : decode cX10_afterLine 40 = .ok (.iaload, 1) := by decide +kernel
theorem dX10_afterLine_41 : decode cX10_afterLine 41 = .ok (.aload_n 0, 1) := by decide +kernel
theorem dX10_afterLine_42 : decode cX10_afterLine 42 = .ok (.getfield 41, 3) := by decide +kernel
theorem dX10_afterLine_45 : decode cX10_afterLine 45 = .ok (.iconst 1, 1) := by decide +kernel
theorem dX10_afterLine_46 : decode cX10_afterLine 46 = .ok (.iaload, 1) := by decide +kernel
theorem dX10_afterLine_47 : decode cX10_afterLine 47 = .ok (.invokestatic 171, 3) := by decide +kernel
theorem dX10_afterLine_50 : decode cX10_afterLine 50 = .ok (.invokestatic 171, 3) := by decide +kernel
theorem dX10_afterLine_53 : decode cX10_afterLine 53 = .ok (.putfield 168, 3) := by decide +kernel
theorem dX10_afterLine_56 : decode cX10_afterLine 56 = .ok (.aload_n 0, 1) := by decide +kernel
theorem dX10_afterLine_57 : decode cX10_afterLine 57 = .ok (.getfield 154, 3) := by decide +kernel
theorem dX10_afterLine_60 : decode cX10_afterLine 60 = .ok (.ifCond .eq 28, 3) := by decide +kernel
theorem dX10_afterLine_63 : decode cX10_afterLine 63 = .ok (.aload_n 0, 1) := by decide +kernel
theorem dX10_afterLine_64 : decode cX10_afterLine 64 = .ok (.getfield 38, 3) := by decide +kernel
theorem dX10_afterLine_67 : decode cX10_afterLine 67 = .ok (.bipush 29, 2) := by decide +kernel
theorem dX10_afterLine_69 : decode cX10_afterLine 69 = .ok (.aload_n 0, 1) := by decide +kernel
theorem dX10_afterLine_70 : decode cX10_afterLine 70 = .ok (.getfield 41, 3) := by decide +kernel
theorem dX10_afterLine_73 : decode cX10_afterLine 73 = .ok (.iconst 0, 1) := by decide +kernel
theorem dX10_afterLine_74 : decode cX10_afterLine 74 = .ok (.iaload, 1) := by decide +kernel
theorem dX10_afterLine_75 : decode cX10_afterLine 75 = .ok (.iadd, 1) := by decide +kernel
theorem dX10_afterLine_76 : decode cX10_afterLine 76 = .ok (.dup2, 1) := by decide +kernel
theorem dX10_afterLine_77 : decode cX10_afterLine 77 = .ok (.iaload, 1) := by decide +kernel
theorem dX10_afterLine_78 : decode cX10_afterLine 78 = .ok (.iconst 1, 1) := by decide +kernel
theorem dX10_afterLine_79 : decode cX10_afterLine 79 = .ok (.aload_n 0, 1) := by decide +kernel
theorem dX10_afterLine_80 : decode cX10_afterLine 80 = .ok (.getfield 41, 3) := by decide +kernel
theorem dX10_afterLine_83 : decode cX10_afterLine 83 = .ok (.iconst 1, 1) := by decide +kernel
theorem dX10_afterLine_84 : decode cX10_afterLine 84 = .ok (.iaload, 1) := by decide +kernel
theorem dX10_afterLine_85 : decode cX10_afterLine 85 = .ok (.ishl, 1) := by decide +kernel
theorem dX10_afterLine_86 : decode cX10_afterLine 86 = .ok (.ior, 1) := by decide +kernel
theorem dX10_afterLine_87 : decode cX10_afterLine 87 = .ok (.iastore, 1) := by decide +kernel
theorem dX10_afterLine_88 : decode cX10_afterLine 88 = .ok (.iconst 1, 1) := by decide +kernel
theorem dX10_afterLine_89 : decode cX10_afterLine 89 = .ok (.ireturn, 1) := by decide +kernel
theorem dX10_coatLine_0 : decode cX10_coatLine 0 = .ok (.lload_n 1, 1) := by decide +kernel
theorem dX10_coatLine_1 : decode cX10_coatLine 1 = .ok (.ldc2_w 175, 3) := by decide +kernel
theorem dX10_coatLine_4 : decode cX10_coatLine 4 = .ok (.lcmp, 1) := by decide +kernel
theorem dX10_coatLine_5 : decode cX10_coatLine 5 = .ok (.ifCond .eq 32, 3) := by decide +kernel
theorem dX10_coatLine_8 : decode cX10_coatLine 8 = .ok (.lload_n 1, 1) := by decide +kernel
theorem dX10_coatLine_9 : decode cX10_coatLine 9 = .ok (.ldc2_w 177, 3) := by decide +kernel
theorem dX10_coatLine_12 : decode cX10_coatLine 12 = .ok (.lcmp, 1) := by decide +kernel
theorem dX10_coatLine_13 : decode cX10_coatLine 13 = .ok (.ifCond .eq 24, 3) := by decide +kernel
theorem dX10_coatLine_16 : decode cX10_coatLine 16 = .ok (.lload_n 1, 1) := by decide +kernel
theorem dX10_coatLine_17 : decode cX10_coatLine 17 = .ok (.ldc2_w 179, 3) := by decide +kernel
theorem dX10_coatLine_20 : decode cX10_coatLine 20 = .ok (.lcmp, 1) := by decide +kernel
theorem dX10_coatLine_21 : decode cX10_coatLine 21 = .ok (.ifCond .eq 16, 3) := by decide +kernel
theorem dX10_coatLine_24 : decode cX10_coatLine 24 = .ok (.lload_n 1, 1) := by decide +kernel
theorem dX10_coatLine_25 : decode cX10_coatLine 25 = .ok (.ldc2_w 181, 3) := by decide +kernel
theorem dX10_coatLine_28 : decode cX10_coatLine 28 = .ok (.lcmp, 1) := by decide +kernel
theorem dX10_coatLine_29 : decode cX10_coatLine 29 = .ok (.ifCond .eq 8, 3) := by decide +kernel
theorem dX10_coatLine_32 : decode cX10_coatLine 32 = .ok (.aload_n 0, 1) := by decide +kernel
theorem dX10_coatLine_33 : decode cX10_coatLine 33 = .ok (.invokevirtual 146, 3) := by decide +kernel
theorem dX10_coatLine_36 : decode cX10_coatLine 36 = .ok (.ireturn, 1) := by decide +kernel
theorem dX10_coatLine_37 : decode cX10_coatLine 37 = .ok (.lload_n 1, 1) := by decide +kernel
theorem dX10_coatLine_38 : decode cX10_coatLine 38 = .ok (.ldc2_w 175, 3) := by decide +kernel
theorem dX10_coatLine_41 : decode cX10_coatLine 41 = .ok (.lcmp, 1) := by decide +kernel
theorem dX10_coatLine_42 : decode cX10_coatLine 42 = .ok (.ifCond .ne 11, 3) := by decide +kernel
theorem dX10_coatLine_45 : decode cX10_coatLine 45 = .ok (.aload_n 0, 1) := by decide +kernel
theorem dX10_coatLine_46 : decode cX10_coatLine 46 = .ok (.iconst 0, 1) := by decide +kernel
theorem dX10_coatLine_47 : decode cX10_coatLine 47 = .ok (.bipush 9, 2) := by decide +kernel
theorem dX10_coatLine_49 : decode cX10_coatLine 49 = .ok (.iload_n 3, 1) := by decide +kernel
theorem dX10_coatLine_50 : decode cX10_coatLine 50 = .ok (.invokevirtual 183, 3) := by decide +kernel
theorem dX10_coatLine_53 : decode cX10_coatLine 53 = .ok (.aload_n 0, 1) := by decide +kernel
theorem dX10_coatLine_54 : decode cX10_coatLine 54 = .ok (.invokevirtual 158, 3) := by decide +kernel
theorem dX10_coatLine_57 : decode cX10_coatLine 57 = .ok (.lload_n 1, 1) := by decide +kernel
theorem dX10_coatLine_58 : decode cX10_coatLine 58 = .ok (.ldc2_w 181, 3) := by decide +kernel
theorem dX10_coatLine_61 : decode cX10_coatLine 61 = .ok (.lcmp, 1) := by decide +kernel
theorem dX10_coatLine_62 : decode cX10_coatLine 62 = .ok (.ifCond .ne 12, 3) := by decide +kernel
theorem dX10_coatLine_65 : decode cX10_coatLine 65 = .ok (.aload_n 0, 1) := by decide +kernel
theorem dX10_coatLine_66 : decode cX10_coatLine 66 = .ok (.iconst 1, 1) := by decide +kernel
theorem dX10_coatLine_67 : decode cX10_coatLine 67 = .ok (.iconst 1, 1) := by decide +kernel
theorem dX10_coatLine_68 : decode cX10_coatLine 68 = .ok (.bipush 9, 2) := by decide +kernel
theorem dX10_coatLine_70 : decode cX10_coatLine 70 = .ok (.invokevirtual 187, 3) := by decide +kernel
theorem dX10_coatLine_73 : decode cX10_coatLine 73 = .ok (.ireturn, 1) := by decide +kernel
theorem dX10_coatLine_74 : decode cX10_coatLine 74 = .ok (.lload_n 1, 1) := by decide +kernel
theorem dX10_coatLine_75 : decode cX10_coatLine 75 = .ok (.ldc2_w 179, 3) := by decide +kernel
theorem dX10_coatLine_78 : decode cX10_coatLine 78 = .ok (.lcmp, 1) := by decide +kernel
theorem dX10_coatLine_79 : decode cX10_coatLine 79 = .ok (.ifCond .eq 23, 3) := by decide +kernel
theorem dX10_coatLine_82 : decode cX10_coatLine 82 = .ok (.lload_n 1, 1) := by decide +kernel
theorem dX10_coatLine_83 : decode cX10_coatLine 83 = .ok (.ldc2_w 175, 3) := by decide +kernel
theorem dX10_coatLine_86 : decode cX10_coatLine 86 = .ok (.lcmp, 1) := by decide +kernel
theorem dX10_coatLine_87 : decode cX10_coatLine 87 = .ok (.ifCond .ne 10, 3) := by decide +kernel
theorem dX10_coatLine_90 : decode cX10_coatLine 90 = .ok (.aload_n 0, 1) := by decide +kernel
theorem dX10_coatLine_91 : decode cX10_coatLine 91 = .ok (.invokevirtual 190, 3) := by decide +kernel
theorem dX10_coatLine_94 : decode cX10_coatLine 94 = .ok (.goto 7, 3) := by decide +kernel
theorem dX10_coatLine_97 : decode cX10_coatLine 97 = .ok (.aload_n 0, 1) := by decide +kernel
theorem dX10_coatLine_98 : decode cX10_coatLine 98 = .ok (.invokevirtual 193, 3) := by decide +kernel
theorem dX10_coatLine_101 : decode cX10_coatLine 101 = .ok (.ireturn, 1) := by decide +kernel
theorem dX10_coatLine_102 : decode cX10_coatLine 102 = .ok (.aload_n 0, 1) := by decide +kernel
theorem dX10_coatLine_103 : decode cX10_coatLine 103 = .ok (.iconst 0, 1) := by decide +kernel
theorem dX10_coatLine_104 : decode cX10_coatLine 104 = .ok (.iconst 0, 1) := by decide +kernel
theorem dX10_coatLine_105 : decode cX10_coatLine 105 = .ok (.bipush 99, 2) := by decide +kernel
theorem dX10_coatLine_107 : decode cX10_coatLine 107 = .ok (.invokevirtual 165, 3) := by decide +kernel
theorem dX10_coatLine_110 : decode cX10_coatLine 110 = .ok (.ifCond .eq 14, 3) := by decide +kernel
theorem dX10_coatLine_113 : decode cX10_coatLine 113 = .ok (.aload_n 0, 1) := by decide +kernel
theorem dX10_coatLine_114 : decode cX10_coatLine 114 = .ok (.iconst 1, 1) := by decide +kernel
theorem dX10_coatLine_115 : decode cX10_coatLine 115 = .ok (.iconst 0, 1) := by decide +kernel
theorem dX10_coatLine_116 : decode cX10_coatLine 116 = .ok (.bipush 9, 2) := by decide +kernel
theorem dX10_coatLine_118 : decode cX10_coatLine 118 = .ok (.invokevirtual 165, 3) := by decide +kernel
theorem dX10_coatLine_121 : decode cX10_coatLine 121 = .ok (.ifCond .ne 5, 3) := by decide +kernel
theorem dX10_coatLine_124 : decode cX10_coatLine 124 = .ok (.iconst 0, 1) := by decide +kernel
theorem dX10_coatLine_125 : decode cX10_coatLine 125 = .ok (.ireturn, 1) := by decide +kernel
theorem dX10_coatLine_126 : decode cX10_coatLine 126 = .ok (.aload_n 0, 1) := by decide +kernel
theorem dX10_coatLine_127 : decode cX10_coatLine 127 = .ok (.getfield 154, 3) := by decide +kernel
theorem dX10_coatLine_130 : decode cX10_coatLine 130 = .ok (.ifCond .eq 23, 3) := by decide +kernel
theorem dX10_coatLine_133 : decode cX10_coatLine 133 = .ok (.aload_n 0, 1) := by decide +kernel
theorem dX10_coatLine_134 : decode cX10_coatLine 134 = .ok (.getfield 38, 3) := by decide +kernel
theorem dX10_coatLine_137 : decode cX10_coatLine 137 = .ok (.bipush 38, 2) := by decide +kernel
theorem dX10_coatLine_139 : decode cX10_coatLine 139 = .ok (.aload_n 0, 1) := by decide +kernel
theorem dX10_coatLine_140 : decode cX10_coatLine 140 = .ok (.getfield 41, 3) := by decide +kernel
theorem dX10_coatLine_143 : decode cX10_coatLine 143 = .ok (.iconst 0, 1) := by decide +kernel
theorem dX10_coatLine_144 : decode cX10_coatLine 144 = .ok (.iaload, 1) := by decide +kernel
theorem dX10_coatLine_145 : decode cX10_coatLine 145 = .ok (.iadd, 1) := by decide +kernel
theorem dX10_coatLine_146 : decode cX10_coatLine 146 = .ok (.aload_n 0, 1) := by decide +kernel
theorem dX10_coatLine_147 : decode cX10_coatLine 147 = .ok (.getfield 41, 3) := by decide +kernel
theorem dX10_coatLine_150 : decode cX10_coatLine 150 = .ok (.iconst 1, 1) := by decide +kernel
theorem dX10_coatLine_151 : decode cX10_coatLine 151 = .ok (.iaload, 1) := by decide +kernel
theorem dX10_coatLine_152 : decode cX10_coatLine 152 = .ok (.iastore, 1) := by decide +kernel
theorem dX10_coatLine_153 : decode cX10_coatLine 153 = .ok (.iconst 1, 1) := by decide +kernel
theorem dX10_coatLine_154 : decode cX10_coatLine 154 = .ok (.ireturn, 1) := by decide +kernel
theorem dX10_deedBy_0 : decode cX10_deedBy 0 = .ok (.lload_n 0, 1) := by decide +kernel
theorem dX10_deedBy_1 : decode cX10_deedBy 1 = .ok (.ldc2_w 196, 3) := by decide +kernel
theorem dX10_deedBy_4 : decode cX10_deedBy 4 = .ok (.lcmp, 1) := by decide +kernel
theorem dX10_deedBy_5 : decode cX10_deedBy 5 = .ok (.ifCond .ne 7, 3) := by decide +kernel
theorem dX10_deedBy_8 : decode cX10_deedBy 8 = .ok (.iconst 0, 1) := by decide +kernel
theorem dX10_deedBy_9 : decode cX10_deedBy 9 = .ok (.goto 64, 3) := by decide +kernel
theorem dX10_deedBy_12 : decode cX10_deedBy 12 = .ok (.lload_n 0, 1) := by decide +kernel
theorem dX10_deedBy_13 : decode cX10_deedBy 13 = .ok (.ldc2_w 198, 3) := by decide +kernel
theorem dX10_deedBy_16 : decode cX10_deedBy 16 = .ok (.lcmp, 1) := by decide +kernel
theorem dX10_deedBy_17 : decode cX10_deedBy 17 = .ok (.ifCond .ne 7, 3) := by decide +kernel
theorem dX10_deedBy_20 : decode cX10_deedBy 20 = .ok (.iconst 1, 1) := by decide +kernel
theorem dX10_deedBy_21 : decode cX10_deedBy 21 = .ok (.goto 52, 3) := by decide +kernel
theorem dX10_deedBy_24 : decode cX10_deedBy 24 = .ok (.lload_n 0, 1) := by decide +kernel
theorem dX10_deedBy_25 : decode cX10_deedBy 25 = .ok (.ldc2_w 200, 3) := by decide +kernel
theorem dX10_deedBy_28 : decode cX10_deedBy 28 = .ok (.lcmp, 1) := by decide +kernel
theorem dX10_deedBy_29 : decode cX10_deedBy 29 = .ok (.ifCond .ne 7, 3) := by decide +kernel
theorem dX10_deedBy_32 : decode cX10_deedBy 32 = .ok (.iconst 2, 1) := by decide +kernel
theorem dX10_deedBy_33 : decode cX10_deedBy 33 = .ok (.goto 40, 3) := by decide +kernel
theorem dX10_deedBy_36 : decode cX10_deedBy 36 = .ok (.lload_n 0, 1) := by decide +kernel
theorem dX10_deedBy_37 : decode cX10_deedBy 37 = .ok (.ldc2_w 202, 3) := by decide +kernel
theorem dX10_deedBy_40 : decode cX10_deedBy 40 = .ok (.lcmp, 1) := by decide +kernel
theorem dX10_deedBy_41 : decode cX10_deedBy 41 = .ok (.ifCond .ne 7, 3) := by decide +kernel
theorem dX10_deedBy_44 : decode cX10_deedBy 44 = .ok (.iconst 3, 1) := by decide +kernel
theorem dX10_deedBy_45 : decode cX10_deedBy 45 = .ok (.goto 28, 3) := by decide +kernel
theorem dX10_deedBy_48 : decode cX10_deedBy 48 = .ok (.lload_n 0, 1) := by decide +kernel
theorem dX10_deedBy_49 : decode cX10_deedBy 49 = .ok (.ldc2_w 204, 3) := by decide +kernel
theorem dX10_deedBy_52 : decode cX10_deedBy 52 = .ok (.lcmp, 1) := by decide +kernel
theorem dX10_deedBy_53 : decode cX10_deedBy 53 = .ok (.ifCond .ne 7, 3) := by decide +kernel
theorem dX10_deedBy_56 : decode cX10_deedBy 56 = .ok (.iconst 4, 1) := by decide +kernel
theorem dX10_deedBy_57 : decode cX10_deedBy 57 = .ok (.goto 16, 3) := by decide +kernel
theorem dX10_deedBy_60 : decode cX10_deedBy 60 = .ok (.lload_n 0, 1) := by decide +kernel
theorem dX10_deedBy_61 : decode cX10_deedBy 61 = .ok (.ldc2_w 206, 3) := by decide +kernel
theorem dX10_deedBy_64 : decode cX10_deedBy 64 = .ok (.lcmp, 1) := by decide +kernel
theorem dX10_deedBy_65 : decode cX10_deedBy 65 = .ok (.ifCond .ne 7, 3) := by decide +kernel
theorem dX10_deedBy_68 : decode cX10_deedBy 68 = .ok (.iconst 5, 1) := by decide +kernel
theorem dX10_deedBy_69 : decode cX10_deedBy 69 = .ok (.goto 4, 3) := by decide +kernel
theorem dX10_deedBy_72 : decode cX10_deedBy 72 = .ok (.iconst (-1), 1) := by decide +kernel
theorem dX10_deedBy_73 : decode cX10_deedBy 73 = .ok (.ireturn, 1) := by decide +kernel
theorem dX10_keep_0 : decode cX10_keep 0 = .ok (.aload_n 0, 1) := by decide +kernel
theorem dX10_keep_1 : decode cX10_keep 1 = .ok (.getfield 38, 3) := by decide +kernel
theorem dX10_keep_4 : decode cX10_keep 4 = .ok (.iconst 0, 1) := by decide +kernel
theorem dX10_keep_5 : decode cX10_keep 5 = .ok (.iaload, 1) := by decide +kernel
theorem dX10_keep_6 : decode cX10_keep 6 = .ok (.istore_n 3, 1) := by decide +kernel
theorem dX10_keep_7 : decode cX10_keep 7 = .ok (.iload_n 3, 1) := by decide +kernel
theorem dX10_keep_8 : decode cX10_keep 8 = .ok (.iload_n 2, 1) := by decide +kernel
theorem dX10_keep_9 : decode cX10_keep 9 = .ok (.if_icmp .ne 4, 3) := by decide +kernel
theorem dX10_keep_12 : decode cX10_keep 12 = .ok (.return_, 1) := by decide +kernel
theorem dX10_keep_13 : decode cX10_keep 13 = .ok (.iconst 0, 1) := by decide +kernel
theorem dX10_keep_14 : decode cX10_keep 14 = .ok (.istore 4, 2) := by decide +kernel
theorem dX10_keep_16 : decode cX10_keep 16 = .ok (.iload 4, 2) := by decide +kernel
theorem dX10_keep_18 : decode cX10_keep 18 = .ok (.iload_n 1, 1) := by decide +kernel
theorem dX10_keep_19 : decode cX10_keep 19 = .ok (.if_icmp .ge 29, 3) := by decide +kernel
theorem dX10_keep_22 : decode cX10_keep 22 = .ok (.aload_n 0, 1) := by decide +kernel
theorem dX10_keep_23 : decode cX10_keep 23 = .ok (.getfield 38, 3) := by decide +kernel
theorem dX10_keep_26 : decode cX10_keep 26 = .ok (.iconst 1, 1) := by decide +kernel
theorem dX10_keep_27 : decode cX10_keep 27 = .ok (.iload_n 1, 1) := by decide +kernel
theorem dX10_keep_28 : decode cX10_keep 28 = .ok (.iload_n 3, 1) := by decide +kernel
theorem dX10_keep_29 : decode cX10_keep 29 = .ok (.imul, 1) := by decide +kernel
theorem dX10_keep_30 : decode cX10_keep 30 = .ok (.iadd, 1) := by decide +kernel
theorem dX10_keep_31 : decode cX10_keep 31 = .ok (.iload 4, 2) := by decide +kernel
theorem dX10_keep_33 : decode cX10_keep 33 = .ok (.iadd, 1) := by decide +kernel
theorem dX10_keep_34 : decode cX10_keep 34 = .ok (.aload_n 0, 1) := by decide +kernel
theorem dX10_keep_35 : decode cX10_keep 35 = .ok (.getfield 41, 3) := by decide +kernel
theorem dX10_keep_38 : decode cX10_keep 38 = .ok (.iload 4, 2) := by decide +kernel
theorem dX10_keep_40 : decode cX10_keep 40 = .ok (.iaload, 1) := by decide +kernel
theorem dX10_keep_41 : decode cX10_keep 41 = .ok (.iastore, 1) := by decide +kernel
theorem dX10_keep_42 : decode cX10_keep 42 = .ok (.iinc 4 1, 3) := by decide +kernel
theorem dX10_keep_45 : decode cX10_keep 45 = .ok (.goto (-29), 3) := by decide +kernel
theorem dX10_keep_48 : decode cX10_keep 48 = .ok (.aload_n 0, 1) := by decide +kernel
theorem dX10_keep_49 : decode cX10_keep 49 = .ok (.getfield 38, 3) := by decide +kernel
theorem dX10_keep_52 : decode cX10_keep 52 = .ok (.iconst 0, 1) := by decide +kernel
theorem dX10_keep_53 : decode cX10_keep 53 = .ok (.dup2, 1) := by decide +kernel
theorem dX10_keep_54 : decode cX10_keep 54 = .ok (.iaload, 1) := by decide +kernel
theorem dX10_keep_55 : decode cX10_keep 55 = .ok (.iconst 1, 1) := by decide +kernel
theorem dX10_keep_56 : decode cX10_keep 56 = .ok (.iadd, 1) := by decide +kernel
theorem dX10_keep_57 : decode cX10_keep 57 = .ok (.iastore, 1) := by decide +kernel
theorem dX10_keep_58 : decode cX10_keep 58 = .ok (.return_, 1) := by decide +kernel
theorem dX10_lifeLine_0 : decode cX10_lifeLine 0 = .ok (.lload_n 1, 1) := by decide +kernel
theorem dX10_lifeLine_1 : decode cX10_lifeLine 1 = .ok (.invokestatic 208, 3) := by decide +kernel
theorem dX10_lifeLine_4 : decode cX10_lifeLine 4 = .ok (.istore 4, 2) := by decide +kernel
theorem dX10_lifeLine_6 : decode cX10_lifeLine 6 = .ok (.iload 4, 2) := by decide +kernel
theorem dX10_lifeLine_8 : decode cX10_lifeLine 8 = .ok (.iconst (-1), 1) := by decide +kernel
theorem dX10_lifeLine_9 : decode cX10_lifeLine 9 = .ok (.if_icmp .ne 8, 3) := by decide +kernel
theorem dX10_lifeLine_12 : decode cX10_lifeLine 12 = .ok (.aload_n 0, 1) := by decide +kernel
theorem dX10_lifeLine_13 : decode cX10_lifeLine 13 = .ok (.invokevirtual 146, 3) := by decide +kernel
theorem dX10_lifeLine_16 : decode cX10_lifeLine 16 = .ok (.ireturn, 1) := by decide +kernel
theorem dX10_lifeLine_17 : decode cX10_lifeLine 17 = .ok (.aload_n 0, 1) := by decide +kernel
theorem dX10_lifeLine_18 : decode cX10_lifeLine 18 = .ok (.iconst 0, 1) := by decide +kernel
theorem dX10_lifeLine_19 : decode cX10_lifeLine 19 = .ok (.bipush 40, 2) := by decide +kernel
theorem dX10_lifeLine_21 : decode cX10_lifeLine 21 = .ok (.iload_n 3, 1) := by decide +kernel
theorem dX10_lifeLine_22 : decode cX10_lifeLine 22 = .ok (.invokevirtual 183, 3) := by decide +kernel
theorem dX10_lifeLine_25 : decode cX10_lifeLine 25 = .ok (.aload_n 0, 1) := by decide +kernel
theorem dX10_lifeLine_26 : decode cX10_lifeLine 26 = .ok (.invokevirtual 158, 3) := by decide +kernel
theorem dX10_lifeLine_29 : decode cX10_lifeLine 29 = .ok (.aload_n 0, 1) := by decide +kernel
theorem dX10_lifeLine_30 : decode cX10_lifeLine 30 = .ok (.getfield 41, 3) := by decide +kernel
theorem dX10_lifeLine_33 : decode cX10_lifeLine 33 = .ok (.iconst 1, 1) := by decide +kernel
theorem dX10_lifeLine_34 : decode cX10_lifeLine 34 = .ok (.iconst (-1), 1) := by decide +kernel
theorem dX10_lifeLine_35 : decode cX10_lifeLine 35 = .ok (.iastore, 1) := by decide +kernel
theorem dX10_lifeLine_36 : decode cX10_lifeLine 36 = .ok (.iload 4, 2) := by decide +kernel
theorem dX10_lifeLine_38 : decode cX10_lifeLine 38 = .ok (.iconst 3, 1) := by decide +kernel
theorem dX10_lifeLine_39 : decode cX10_lifeLine 39 = .ok (.if_icmp .ge 14, 3) := by decide +kernel
theorem dX10_lifeLine_42 : decode cX10_lifeLine 42 = .ok (.aload_n 0, 1) := by decide +kernel
theorem dX10_lifeLine_43 : decode cX10_lifeLine 43 = .ok (.iconst 1, 1) := by decide +kernel
theorem dX10_lifeLine_44 : decode cX10_lifeLine 44 = .ok (.iconst 0, 1) := by decide +kernel
theorem dX10_lifeLine_45 : decode cX10_lifeLine 45 = .ok (.bipush 8, 2) := by decide +kernel
theorem dX10_lifeLine_47 : decode cX10_lifeLine 47 = .ok (.invokevirtual 165, 3) := by decide +kernel
theorem dX10_lifeLine_50 : decode cX10_lifeLine 50 = .ok (.ifCond .eq 24, 3) := by decide +kernel
theorem dX10_lifeLine_53 : decode cX10_lifeLine 53 = .ok (.iload 4, 2) := by decide +kernel
theorem dX10_lifeLine_55 : decode cX10_lifeLine 55 = .ok (.iconst 3, 1) := by decide +kernel
theorem dX10_lifeLine_56 : decode cX10_lifeLine 56 = .ok (.iconst 4, 1) := by decide +kernel
theorem dX10_lifeLine_57 : decode cX10_lifeLine 57 = .ok (.invokestatic 106, 3) := by decide +kernel
theorem dX10_lifeLine_60 : decode cX10_lifeLine 60 = .ok (.ifCond .eq 16, 3) := by decide +kernel
theorem dX10_lifeLine_63 : decode cX10_lifeLine 63 = .ok (.aload_n 0, 1) := by decide +kernel
theorem dX10_lifeLine_64 : decode cX10_lifeLine 64 = .ok (.iconst 1, 1) := by decide +kernel
theorem dX10_lifeLine_65 : decode cX10_lifeLine 65 = .ok (.iconst 1, 1) := by decide +kernel
theorem dX10_lifeLine_66 : decode cX10_lifeLine 66 = .ok (.bipush 9, 2) := by decide +kernel
theorem dX10_lifeLine_68 : decode cX10_lifeLine 68 = .ok (.invokevirtual 165, 3) := by decide +kernel
theorem dX10_lifeLine_71 : decode cX10_lifeLine 71 = .ok (.ifCond .ne 5, 3) := by decide +kernel
theorem dX10_lifeLine_74 : decode cX10_lifeLine 74 = .ok (.iconst 0, 1) := by decide +kernel
theorem dX10_lifeLine_75 : decode cX10_lifeLine 75 = .ok (.ireturn, 1) := by decide +kernel
theorem dX10_lifeLine_76 : decode cX10_lifeLine 76 = .ok (.aload_n 0, 1) := by decide +kernel
theorem dX10_lifeLine_77 : decode cX10_lifeLine 77 = .ok (.getfield 41, 3) := by decide +kernel
theorem dX10_lifeLine_80 : decode cX10_lifeLine 80 = .ok (.iconst 0, 1) := by decide +kernel
theorem dX10_lifeLine_81 : decode cX10_lifeLine 81 = .ok (.iload 4, 2) := by decide +kernel
theorem dX10_lifeLine_83 : decode cX10_lifeLine 83 = .ok (.iastore, 1) := by decide +kernel
theorem dX10_lifeLine_84 : decode cX10_lifeLine 84 = .ok (.aload_n 0, 1) := by decide +kernel
theorem dX10_lifeLine_85 : decode cX10_lifeLine 85 = .ok (.iconst 2, 1) := by decide +kernel
theorem dX10_lifeLine_86 : decode cX10_lifeLine 86 = .ok (.bipush 40, 2) := by decide +kernel
theorem dX10_lifeLine_88 : decode cX10_lifeLine 88 = .ok (.invokevirtual 212, 3) := by decide +kernel
theorem dX10_lifeLine_91 : decode cX10_lifeLine 91 = .ok (.iconst 1, 1) := by decide +kernel
theorem dX10_lifeLine_92 : decode cX10_lifeLine 92 = .ok (.ireturn, 1) := by decide +kernel
theorem dX10_wearerLine_0 : decode cX10_wearerLine 0 = .ok (.aload_n 0, 1) := by decide +kernel
theorem dX10_wearerLine_1 : decode cX10_wearerLine 1 = .ok (.iconst 0, 1) := by decide +kernel
theorem dX10_wearerLine_2 : decode cX10_wearerLine 2 = .ok (.iconst 0, 1) := by decide +kernel
theorem dX10_wearerLine_3 : decode cX10_wearerLine 3 = .ok (.bipush 9, 2) := by decide +kernel
theorem dX10_wearerLine_5 : decode cX10_wearerLine 5 = .ok (.invokevirtual 165, 3) := by decide +kernel
theorem dX10_wearerLine_8 : decode cX10_wearerLine 8 = .ok (.ifCond .eq 36, 3) := by decide +kernel
theorem dX10_wearerLine_11 : decode cX10_wearerLine 11 = .ok (.aload_n 0, 1) := by decide +kernel
theorem dX10_wearerLine_12 : decode cX10_wearerLine 12 = .ok (.iconst 1, 1) := by decide +kernel
theorem dX10_wearerLine_13 : decode cX10_wearerLine 13 = .ok (.iconst 0, 1) := by decide +kernel
theorem dX10_wearerLine_14 : decode cX10_wearerLine 14 = .ok (.bipush 9, 2) := by decide +kernel
theorem dX10_wearerLine_16 : decode cX10_wearerLine 16 = .ok (.invokevirtual 165, 3) := by decide +kernel
theorem dX10_wearerLine_19 : decode cX10_wearerLine 19 = .ok (.ifCond .eq 25, 3) := by decide +kernel
theorem dX10_wearerLine_22 : decode cX10_wearerLine 22 = .ok (.aload_n 0, 1) := by decide +kernel
theorem dX10_wearerLine_23 : decode cX10_wearerLine 23 = .ok (.iconst 2, 1) := by decide +kernel
theorem dX10_wearerLine_24 : decode cX10_wearerLine 24 = .ok (.iconst 1, 1) := by decide +kernel
theorem dX10_wearerLine_25 : decode cX10_wearerLine 25 = .ok (.bipush 30, 2) := by decide +kernel
theorem dX10_wearerLine_27 : decode cX10_wearerLine 27 = .ok (.invokevirtual 165, 3) := by decide +kernel
theorem dX10_wearerLine_30 : decode cX10_wearerLine 30 = .ok (.ifCond .eq 14, 3) := by decide +kernel
theorem dX10_wearerLine_33 : decode cX10_wearerLine 33 = .ok (.aload_n 0, 1) := by decide +kernel
theorem dX10_wearerLine_34 : decode cX10_wearerLine 34 = .ok (.iconst 3, 1) := by decide +kernel
theorem dX10_wearerLine_35 : decode cX10_wearerLine 35 = .ok (.iconst 0, 1) := by decide +kernel
theorem dX10_wearerLine_36 : decode cX10_wearerLine 36 = .ok (.bipush 99, 2) := by decide +kernel
theorem dX10_wearerLine_38 : decode cX10_wearerLine 38 = .ok (.invokevirtual 165, 3) := by decide +kernel
theorem dX10_wearerLine_41 : decode cX10_wearerLine 41 = .ok (.ifCond .ne 5, 3) := by decide +kernel
theorem dX10_wearerLine_44 : decode cX10_wearerLine 44 = .ok (.iconst 0, 1) := by decide +kernel
theorem dX10_wearerLine_45 : decode cX10_wearerLine 45 = .ok (.ireturn, 1) := by decide +kernel
theorem dX10_wearerLine_46 : decode cX10_wearerLine 46 = .ok (.aload_n 0, 1) := by decide +kernel
theorem dX10_wearerLine_47 : decode cX10_wearerLine 47 = .ok (.getfield 38, 3) := by decide +kernel
theorem dX10_wearerLine_50 : decode cX10_wearerLine 50 = .ok (.iconst 0, 1) := by decide +kernel
theorem dX10_wearerLine_51 : decode cX10_wearerLine 51 = .ok (.iaload, 1) := by decide +kernel
theorem dX10_wearerLine_52 : decode cX10_wearerLine 52 = .ok (.istore_n 1, 1) := by decide +kernel
theorem dX10_wearerLine_53 : decode cX10_wearerLine 53 = .ok (.iload_n 1, 1) := by decide +kernel
theorem dX10_wearerLine_54 : decode cX10_wearerLine 54 = .ok (.bipush 6, 2) := by decide +kernel
theorem dX10_wearerLine_56 : decode cX10_wearerLine 56 = .ok (.if_icmp .ge 72, 3) := by decide +kernel
theorem dX10_wearerLine_59 : decode cX10_wearerLine 59 = .ok (.aload_n 0, 1) := by decide +kernel
theorem dX10_wearerLine_60 : decode cX10_wearerLine 60 = .ok (.getfield 38, 3) := by decide +kernel
theorem dX10_wearerLine_63 : decode cX10_wearerLine 63 = .ok (.iconst 5, 1) := by decide +kernel
theorem dX10_wearerLine_64 : decode cX10_wearerLine 64 = .ok (.iload_n 1, 1) := by decide +kernel
theorem dX10_wearerLine_65 : decode cX10_wearerLine 65 = .ok (.iadd, 1) := by decide +kernel
theorem dX10_wearerLine_66 : decode cX10_wearerLine 66 = .ok (.aload_n 0, 1) := by decide +kernel
theorem dX10_wearerLine_67 : decode cX10_wearerLine 67 = .ok (.getfield 41, 3) := by decide +kernel
theorem dX10_wearerLine_70 : decode cX10_wearerLine 70 = .ok (.iconst 0, 1) := by decide +kernel
theorem dX10_wearerLine_71 : decode cX10_wearerLine 71 = .ok (.iaload, 1) := by decide +kernel
theorem dX10_wearerLine_72 : decode cX10_wearerLine 72 = .ok (.iastore, 1) := by decide +kernel
theorem dX10_wearerLine_73 : decode cX10_wearerLine 73 = .ok (.aload_n 0, 1) := by decide +kernel
theorem dX10_wearerLine_74 : decode cX10_wearerLine 74 = .ok (.getfield 38, 3) := by decide +kernel
theorem dX10_wearerLine_77 : decode cX10_wearerLine 77 = .ok (.bipush 11, 2) := by decide +kernel
theorem dX10_wearerLine_79 : decode cX10_wearerLine 79 = .ok (.iload_n 1, 1) := by decide +kernel
theorem dX10_wearerLine_80 : decode cX10_wearerLine 80 = .ok (.iadd, 1) := by decide +kernel
theorem dX10_wearerLine_81 : decode cX10_wearerLine 81 = .ok (.aload_n 0, 1) := by decide +kernel
theorem dX10_wearerLine_82 : decode cX10_wearerLine 82 = .ok (.getfield 41, 3) := by decide +kernel
theorem dX10_wearerLine_85 : decode cX10_wearerLine 85 = .ok (.iconst 1, 1) := by decide +kernel
theorem dX10_wearerLine_86 : decode cX10_wearerLine 86 = .ok (.iaload, 1) := by decide +kernel
theorem dX10_wearerLine_87 : decode cX10_wearerLine 87 = .ok (.iastore, 1) := by decide +kernel
theorem dX10_wearerLine_88 : decode cX10_wearerLine 88 = .ok (.aload_n 0, 1) := by decide +kernel
theorem dX10_wearerLine_89 : decode cX10_wearerLine 89 = .ok (.getfield 38, 3) := by decide +kernel
theorem dX10_wearerLine_92 : decode cX10_wearerLine 92 = .ok (.bipush 17, 2) := by decide +kernel
theorem dX10_wearerLine_94 : decode cX10_wearerLine 94 = .ok (.iload_n 1, 1) := by decide +kernel
theorem dX10_wearerLine_95 : decode cX10_wearerLine 95 = .ok (.iadd, 1) := by decide +kernel
theorem dX10_wearerLine_96 : decode cX10_wearerLine 96 = .ok (.aload_n 0, 1) := by decide +kernel
theorem dX10_wearerLine_97 : decode cX10_wearerLine 97 = .ok (.getfield 41, 3) := by decide +kernel
theorem dX10_wearerLine_100 : decode cX10_wearerLine 100 = .ok (.iconst 2, 1) := by decide +kernel
theorem dX10_wearerLine_101 : decode cX10_wearerLine 101 = .ok (.iaload, 1) := by decide +kernel
theorem dX10_wearerLine_102 : decode cX10_wearerLine 102 = .ok (.iastore, 1) := by decide +kernel
theorem dX10_wearerLine_103 : decode cX10_wearerLine 103 = .ok (.aload_n 0, 1) := by decide +kernel
theorem dX10_wearerLine_104 : decode cX10_wearerLine 104 = .ok (.getfield 38, 3) := by decide +kernel
theorem dX10_wearerLine_107 : decode cX10_wearerLine 107 = .ok (.bipush 23, 2) := by decide +kernel
theorem dX10_wearerLine_109 : decode cX10_wearerLine 109 = .ok (.iload_n 1, 1) := by decide +kernel
theorem dX10_wearerLine_110 : decode cX10_wearerLine 110 = .ok (.iadd, 1) := by decide +kernel
theorem dX10_wearerLine_111 : decode cX10_wearerLine 111 = .ok (.aload_n 0, 1) := by decide +kernel
theorem dX10_wearerLine_112 : decode cX10_wearerLine 112 = .ok (.getfield 41, 3) := by decide +kernel
theorem dX10_wearerLine_115 : decode cX10_wearerLine 115 = .ok (.iconst 3, 1) := by decide +kernel
theorem dX10_wearerLine_116 : decode cX10_wearerLine 116 = .ok (.iaload, 1) := by decide +kernel
theorem dX10_wearerLine_117 : decode cX10_wearerLine 117 = .ok (.iastore, 1) := by decide +kernel
theorem dX10_wearerLine_118 : decode cX10_wearerLine 118 = .ok (.aload_n 0, 1) := by decide +kernel
theorem dX10_wearerLine_119 : decode cX10_wearerLine 119 = .ok (.getfield 38, 3) := by decide +kernel
theorem dX10_wearerLine_122 : decode cX10_wearerLine 122 = .ok (.iconst 0, 1) := by decide +kernel
theorem dX10_wearerLine_123 : decode cX10_wearerLine 123 = .ok (.dup2, 1) := by decide +kernel
theorem dX10_wearerLine_124 : decode cX10_wearerLine 124 = .ok (.iaload, 1) := by decide +kernel
theorem dX10_wearerLine_125 : decode cX10_wearerLine 125 = .ok (.iconst 1, 1) := by decide +kernel
theorem dX10_wearerLine_126 : decode cX10_wearerLine 126 = .ok (.iadd, 1) := by decide +kernel
theorem dX10_wearerLine_127 : decode cX10_wearerLine 127 = .ok (.iastore, 1) := by decide +kernel
theorem dX10_wearerLine_128 : decode cX10_wearerLine 128 = .ok (.iconst 1, 1) := by decide +kernel
theorem dX10_wearerLine_129 : decode cX10_wearerLine 129 = .ok (.ireturn, 1) := by decide +kernel
theorem dX10_awayLine_0 : decode cX10_awayLine 0 = .ok (.aload_n 0, 1) := by decide +kernel
theorem dX10_awayLine_1 : decode cX10_awayLine 1 = .ok (.iconst 0, 1) := by decide +kernel
theorem dX10_awayLine_2 : decode cX10_awayLine 2 = .ok (.iconst 0, 1) := by decide +kernel
theorem dX10_awayLine_3 : decode cX10_awayLine 3 = .ok (.iconst 5, 1) := by decide +kernel
theorem dX10_awayLine_4 : decode cX10_awayLine 4 = .ok (.invokevirtual 165, 3) := by decide +kernel
theorem dX10_awayLine_7 : decode cX10_awayLine 7 = .ok (.ifCond .eq 30, 3) := by decide +kernel
theorem dX10_awayLine_10 : decode cX10_awayLine 10 = .ok (.aload_n 0, 1) := by decide +kernel
theorem dX10_awayLine_11 : decode cX10_awayLine 11 = .ok (.iconst 1, 1) := by decide +kernel
theorem dX10_awayLine_12 : decode cX10_awayLine 12 = .ok (.iconst 0, 1) := by decide +kernel
theorem dX10_awayLine_13 : decode cX10_awayLine 13 = .ok (.bipush 99, 2) := by decide +kernel
theorem dX10_awayLine_15 : decode cX10_awayLine 15 = .ok (.invokevirtual 165, 3) := by decide +kernel
theorem dX10_awayLine_18 : decode cX10_awayLine 18 = .ok (.ifCond .eq 19, 3) := by decide +kernel
theorem dX10_awayLine_21 : decode cX10_awayLine 21 = .ok (.aload_n 0, 1) := by decide +kernel
theorem dX10_awayLine_22 : decode cX10_awayLine 22 = .ok (.iconst 2, 1) := by decide +kernel
theorem dX10_awayLine_23 : decode cX10_awayLine 23 = .ok (.aload_n 0, 1) := by decide +kernel
theorem dX10_awayLine_24 : decode cX10_awayLine 24 = .ok (.getfield 41, 3) := by decide +kernel
theorem dX10_awayLine_27 : decode cX10_awayLine 27 = .ok (.iconst 1, 1) := by decide +kernel
theorem dX10_awayLine_28 : decode cX10_awayLine 28 = .ok (.iaload, 1) := by decide +kernel
theorem dX10_awayLine_29 : decode cX10_awayLine 29 = .ok (.bipush 99, 2) := by decide +kernel
theorem dX10_awayLine_31 : decode cX10_awayLine 31 = .ok (.invokevirtual 165, 3) := by decide +kernel
theorem dX10_awayLine_34 : decode cX10_awayLine 34 = .ok (.ifCond .ne 5, 3) := by decide +kernel
theorem dX10_awayLine_37 : decode cX10_awayLine 37 = .ok (.iconst 0, 1) := by decide +kernel
theorem dX10_awayLine_38 : decode cX10_awayLine 38 = .ok (.ireturn, 1) := by decide +kernel
theorem dX10_awayLine_39 : decode cX10_awayLine 39 = .ok (.aload_n 0, 1) := by decide +kernel
theorem dX10_awayLine_40 : decode cX10_awayLine 40 = .ok (.aload_n 0, 1) := by decide +kernel
theorem dX10_awayLine_41 : decode cX10_awayLine 41 = .ok (.getfield 168, 3) := by decide +kernel
theorem dX10_awayLine_44 : decode cX10_awayLine 44 = .ok (.aload_n 0, 1) := by decide +kernel
theorem dX10_awayLine_45 : decode cX10_awayLine 45 = .ok (.getfield 41, 3) := by decide +kernel
theorem dX10_awayLine_48 : decode cX10_awayLine 48 = .ok (.iconst 0, 1) := by decide +kernel
theorem dX10_awayLine_49 : decode cX10_awayLine 49 = .ok (.iaload, 1) := by decide +kernel
theorem dX10_awayLine_50 : decode cX10_awayLine 50 = .ok (.invokestatic 171, 3) := by decide +kernel
theorem dX10_awayLine_53 : decode cX10_awayLine 53 = .ok (.putfield 168, 3) := by decide +kernel
theorem dX10_awayLine_56 : decode cX10_awayLine 56 = .ok (.aload_n 0, 1) := by decide +kernel
theorem dX10_awayLine_57 : decode cX10_awayLine 57 = .ok (.getfield 154, 3) := by decide +kernel
theorem dX10_awayLine_60 : decode cX10_awayLine 60 = .ok (.ifCond .eq 43, 3) := by decide +kernel
theorem dX10_awayLine_63 : decode cX10_awayLine 63 = .ok (.aload_n 0, 1) := by decide +kernel
theorem dX10_awayLine_64 : decode cX10_awayLine 64 = .ok (.getfield 38, 3) := by decide +kernel
theorem dX10_awayLine_67 : decode cX10_awayLine 67 = .ok (.bipush 29, 2) := by decide +kernel
theorem dX10_awayLine_69 : decode cX10_awayLine 69 = .ok (.aload_n 0, 1) := by decide +kernel
theorem dX10_awayLine_70 : decode cX10_awayLine 70 = .ok (.getfield 41, 3) := by decide +kernel
theorem dX10_awayLine_73 : decode cX10_awayLine 73 = .ok (.iconst 0, 1) := by decide +kernel
theorem dX10_awayLine_74 : decode cX10_awayLine 74 = .ok (.iaload, 1) := by decide +kernel
theorem dX10_awayLine_75 : decode cX10_awayLine 75 = .ok (.iadd, 1) := by decide +kernel
theorem dX10_awayLine_76 : decode cX10_awayLine 76 = .ok (.aload_n 0, 1) := by decide +kernel
theorem dX10_awayLine_77 : decode cX10_awayLine 77 = .ok (.getfield 41, 3) := by decide +kernel
theorem dX10_awayLine_80 : decode cX10_awayLine 80 = .ok (.iconst 1, 1) := by decide +kernel
theorem dX10_awayLine_81 : decode cX10_awayLine 81 = .ok (.iaload, 1) := by decide +kernel
theorem dX10_awayLine_82 : decode cX10_awayLine 82 = .ok (.iastore, 1) := by decide +kernel
theorem dX10_awayLine_83 : decode cX10_awayLine 83 = .ok (.aload_n 0, 1) := by decide +kernel
theorem dX10_awayLine_84 : decode cX10_awayLine 84 = .ok (.getfield 38, 3) := by decide +kernel
theorem dX10_awayLine_87 : decode cX10_awayLine 87 = .ok (.bipush 35, 2) := by decide +kernel
theorem dX10_awayLine_89 : decode cX10_awayLine 89 = .ok (.aload_n 0, 1) := by decide +kernel
theorem dX10_awayLine_90 : decode cX10_awayLine 90 = .ok (.getfield 41, 3) := by decide +kernel
theorem dX10_awayLine_93 : decode cX10_awayLine 93 = .ok (.iconst 0, 1) := by decide +kernel
theorem dX10_awayLine_94 : decode cX10_awayLine 94 = .ok (.iaload, 1) := by decide +kernel
theorem dX10_awayLine_95 : decode cX10_awayLine 95 = .ok (.iadd, 1) := by decide +kernel
theorem dX10_awayLine_96 : decode cX10_awayLine 96 = .ok (.aload_n 0, 1) := by decide +kernel
theorem dX10_awayLine_97 : decode cX10_awayLine 97 = .ok (.getfield 41, 3) := by decide +kernel
theorem dX10_awayLine_100 : decode cX10_awayLine 100 = .ok (.iconst 2, 1) := by decide +kernel
theorem dX10_awayLine_101 : decode cX10_awayLine 101 = .ok (.iaload, 1) := by decide +kernel
theorem dX10_awayLine_102 : decode cX10_awayLine 102 = .ok (.iastore, 1) := by decide +kernel
theorem dX10_awayLine_103 : decode cX10_awayLine 103 = .ok (.iconst 1, 1) := by decide +kernel
theorem dX10_awayLine_104 : decode cX10_awayLine 104 = .ok (.ireturn, 1) := by decide +kernel
theorem dX10_townLine_0 : decode cX10_townLine 0 = .ok (.lload_n 1, 1) := by decide +kernel
theorem dX10_townLine_1 : decode cX10_townLine 1 = .ok (.ldc2_w 215, 3) := by decide +kernel
theorem dX10_townLine_4 : decode cX10_townLine 4 = .ok (.lcmp, 1) := by decide +kernel
theorem dX10_townLine_5 : decode cX10_townLine 5 = .ok (.ifCond .eq 40, 3) := by decide +kernel
theorem dX10_townLine_8 : decode cX10_townLine 8 = .ok (.lload_n 1, 1) := by decide +kernel
theorem dX10_townLine_9 : decode cX10_townLine 9 = .ok (.ldc2_w 217, 3) := by decide +kernel
theorem dX10_townLine_12 : decode cX10_townLine 12 = .ok (.lcmp, 1) := by decide +kernel
theorem dX10_townLine_13 : decode cX10_townLine 13 = .ok (.ifCond .eq 32, 3) := by decide +kernel
theorem dX10_townLine_16 : decode cX10_townLine 16 = .ok (.lload_n 1, 1) := by decide +kernel
theorem dX10_townLine_17 : decode cX10_townLine 17 = .ok (.ldc2_w 219, 3) := by decide +kernel
theorem dX10_townLine_20 : decode cX10_townLine 20 = .ok (.lcmp, 1) := by decide +kernel
theorem dX10_townLine_21 : decode cX10_townLine 21 = .ok (.ifCond .eq 24, 3) := by decide +kernel
theorem dX10_townLine_24 : decode cX10_townLine 24 = .ok (.lload_n 1, 1) := by decide +kernel
theorem dX10_townLine_25 : decode cX10_townLine 25 = .ok (.ldc2_w 221, 3) := by decide +kernel
theorem dX10_townLine_28 : decode cX10_townLine 28 = .ok (.lcmp, 1) := by decide +kernel
theorem dX10_townLine_29 : decode cX10_townLine 29 = .ok (.ifCond .eq 16, 3) := by decide +kernel
theorem dX10_townLine_32 : decode cX10_townLine 32 = .ok (.lload_n 1, 1) := by decide +kernel
theorem dX10_townLine_33 : decode cX10_townLine 33 = .ok (.ldc2_w 223, 3) := by decide +kernel
theorem dX10_townLine_36 : decode cX10_townLine 36 = .ok (.lcmp, 1) := by decide +kernel
theorem dX10_townLine_37 : decode cX10_townLine 37 = .ok (.ifCond .eq 8, 3) := by decide +kernel
theorem dX10_townLine_40 : decode cX10_townLine 40 = .ok (.aload_n 0, 1) := by decide +kernel
theorem dX10_townLine_41 : decode cX10_townLine 41 = .ok (.invokevirtual 146, 3) := by decide +kernel
theorem dX10_townLine_44 : decode cX10_townLine 44 = .ok (.ireturn, 1) := by decide +kernel
theorem dX10_townLine_45 : decode cX10_townLine 45 = .ok (.lload_n 1, 1) := by decide +kernel
theorem dX10_townLine_46 : decode cX10_townLine 46 = .ok (.ldc2_w 221, 3) := by decide +kernel
theorem dX10_townLine_49 : decode cX10_townLine 49 = .ok (.lcmp, 1) := by decide +kernel
theorem dX10_townLine_50 : decode cX10_townLine 50 = .ok (.ifCond .ne 11, 3) := by decide +kernel
theorem dX10_townLine_53 : decode cX10_townLine 53 = .ok (.aload_n 0, 1) := by decide +kernel
theorem dX10_townLine_54 : decode cX10_townLine 54 = .ok (.iconst 0, 1) := by decide +kernel
theorem dX10_townLine_55 : decode cX10_townLine 55 = .ok (.bipush 6, 2) := by decide +kernel
theorem dX10_townLine_57 : decode cX10_townLine 57 = .ok (.iload_n 3, 1) := by decide +kernel
theorem dX10_townLine_58 : decode cX10_townLine 58 = .ok (.invokevirtual 183, 3) := by decide +kernel
theorem dX10_townLine_61 : decode cX10_townLine 61 = .ok (.aload_n 0, 1) := by decide +kernel
theorem dX10_townLine_62 : decode cX10_townLine 62 = .ok (.invokevirtual 158, 3) := by decide +kernel
theorem dX10_townLine_65 : decode cX10_townLine 65 = .ok (.lload_n 1, 1) := by decide +kernel
theorem dX10_townLine_66 : decode cX10_townLine 66 = .ok (.ldc2_w 215, 3) := by decide +kernel
theorem dX10_townLine_69 : decode cX10_townLine 69 = .ok (.lcmp, 1) := by decide +kernel
theorem dX10_townLine_70 : decode cX10_townLine 70 = .ok (.ifCond .eq 11, 3) := by decide +kernel
theorem dX10_townLine_73 : decode cX10_townLine 73 = .ok (.lload_n 1, 1) := by decide +kernel
theorem dX10_townLine_74 : decode cX10_townLine 74 = .ok (.ldc2_w 217, 3) := by decide +kernel
theorem dX10_townLine_77 : decode cX10_townLine 77 = .ok (.lcmp, 1) := by decide +kernel
theorem dX10_townLine_78 : decode cX10_townLine 78 = .ok (.ifCond .ne 24, 3) := by decide +kernel
theorem dX10_townLine_81 : decode cX10_townLine 81 = .ok (.aload_n 0, 1) := by decide +kernel
theorem dX10_townLine_82 : decode cX10_townLine 82 = .ok (.lload_n 1, 1) := by decide +kernel
theorem dX10_townLine_83 : decode cX10_townLine 83 = .ok (.ldc2_w 215, 3) := by decide +kernel
theorem dX10_townLine_86 : decode cX10_townLine 86 = .ok (.lcmp, 1) := by decide +kernel
theorem dX10_townLine_87 : decode cX10_townLine 87 = .ok (.ifCond .ne 7, 3) := by decide +kernel
theorem dX10_townLine_90 : decode cX10_townLine 90 = .ok (.iconst 1, 1) := by decide +kernel
theorem dX10_townLine_91 : decode cX10_townLine 91 = .ok (.goto 4, 3) := by decide +kernel
theorem dX10_townLine_94 : decode cX10_townLine 94 = .ok (.iconst 2, 1) := by decide +kernel
theorem dX10_townLine_95 : decode cX10_townLine 95 = .ok (.iconst 1, 1) := by decide +kernel
theorem dX10_townLine_96 : decode cX10_townLine 96 = .ok (.bipush 9, 2) := by decide +kernel
theorem dX10_townLine_98 : decode cX10_townLine 98 = .ok (.invokevirtual 187, 3) := by decide +kernel
theorem dX10_townLine_101 : decode cX10_townLine 101 = .ok (.ireturn, 1) := by decide +kernel
theorem dX10_townLine_102 : decode cX10_townLine 102 = .ok (.lload_n 1, 1) := by decide +kernel
theorem dX10_townLine_103 : decode cX10_townLine 103 = .ok (.ldc2_w 219, 3) := by decide +kernel
theorem dX10_townLine_106 : decode cX10_townLine 106 = .ok (.lcmp, 1) := by decide +kernel
theorem dX10_townLine_107 : decode cX10_townLine 107 = .ok (.ifCond .eq 23, 3) := by decide +kernel
theorem dX10_townLine_110 : decode cX10_townLine 110 = .ok (.lload_n 1, 1) := by decide +kernel
theorem dX10_townLine_111 : decode cX10_townLine 111 = .ok (.ldc2_w 221, 3) := by decide +kernel
theorem dX10_townLine_114 : decode cX10_townLine 114 = .ok (.lcmp, 1) := by decide +kernel
theorem dX10_townLine_115 : decode cX10_townLine 115 = .ok (.ifCond .ne 10, 3) := by decide +kernel
theorem dX10_townLine_118 : decode cX10_townLine 118 = .ok (.aload_n 0, 1) := by decide +kernel
theorem dX10_townLine_119 : decode cX10_townLine 119 = .ok (.invokevirtual 225, 3) := by decide +kernel
theorem dX10_townLine_122 : decode cX10_townLine 122 = .ok (.goto 7, 3) := by decide +kernel
theorem dX10_townLine_125 : decode cX10_townLine 125 = .ok (.aload_n 0, 1) := by decide +kernel
theorem dX10_townLine_126 : decode cX10_townLine 126 = .ok (.invokevirtual 228, 3) := by decide +kernel
theorem dX10_townLine_129 : decode cX10_townLine 129 = .ok (.ireturn, 1) := by decide +kernel
theorem dX10_townLine_130 : decode cX10_townLine 130 = .ok (.aload_n 0, 1) := by decide +kernel
theorem dX10_townLine_131 : decode cX10_townLine 131 = .ok (.iconst 0, 1) := by decide +kernel
theorem dX10_townLine_132 : decode cX10_townLine 132 = .ok (.iconst 0, 1) := by decide +kernel
theorem dX10_townLine_133 : decode cX10_townLine 133 = .ok (.bipush 9, 2) := by decide +kernel
theorem dX10_townLine_135 : decode cX10_townLine 135 = .ok (.invokevirtual 165, 3) := by decide +kernel
theorem dX10_townLine_138 : decode cX10_townLine 138 = .ok (.ifCond .eq 14, 3) := by decide +kernel
theorem dX10_townLine_141 : decode cX10_townLine 141 = .ok (.aload_n 0, 1) := by decide +kernel
theorem dX10_townLine_142 : decode cX10_townLine 142 = .ok (.iconst 1, 1) := by decide +kernel
theorem dX10_townLine_143 : decode cX10_townLine 143 = .ok (.iconst 0, 1) := by decide +kernel
theorem dX10_townLine_144 : decode cX10_townLine 144 = .ok (.bipush 9, 2) := by decide +kernel
theorem dX10_townLine_146 : decode cX10_townLine 146 = .ok (.invokevirtual 165, 3) := by decide +kernel
theorem dX10_townLine_149 : decode cX10_townLine 149 = .ok (.ifCond .ne 5, 3) := by decide +kernel
theorem dX10_townLine_152 : decode cX10_townLine 152 = .ok (.iconst 0, 1) := by decide +kernel
theorem dX10_townLine_153 : decode cX10_townLine 153 = .ok (.ireturn, 1) := by decide +kernel
theorem dX10_townLine_154 : decode cX10_townLine 154 = .ok (.aload_n 0, 1) := by decide +kernel
theorem dX10_townLine_155 : decode cX10_townLine 155 = .ok (.getfield 38, 3) := by decide +kernel
theorem dX10_townLine_158 : decode cX10_townLine 158 = .ok (.iconst 3, 1) := by decide +kernel
theorem dX10_townLine_159 : decode cX10_townLine 159 = .ok (.aload_n 0, 1) := by decide +kernel
theorem dX10_townLine_160 : decode cX10_townLine 160 = .ok (.getfield 41, 3) := by decide +kernel
theorem dX10_townLine_163 : decode cX10_townLine 163 = .ok (.iconst 0, 1) := by decide +kernel
theorem dX10_townLine_164 : decode cX10_townLine 164 = .ok (.iaload, 1) := by decide +kernel
theorem dX10_townLine_165 : decode cX10_townLine 165 = .ok (.iastore, 1) := by decide +kernel
theorem dX10_townLine_166 : decode cX10_townLine 166 = .ok (.aload_n 0, 1) := by decide +kernel
theorem dX10_townLine_167 : decode cX10_townLine 167 = .ok (.getfield 38, 3) := by decide +kernel
theorem dX10_townLine_170 : decode cX10_townLine 170 = .ok (.iconst 4, 1) := by decide +kernel
theorem dX10_townLine_171 : decode cX10_townLine 171 = .ok (.aload_n 0, 1) := by decide +kernel
theorem dX10_townLine_172 : decode cX10_townLine 172 = .ok (.getfield 41, 3) := by decide +kernel
theorem dX10_townLine_175 : decode cX10_townLine 175 = .ok (.iconst 1, 1) := by decide +kernel
theorem dX10_townLine_176 : decode cX10_townLine 176 = .ok (.iaload, 1) := by decide +kernel
theorem dX10_townLine_177 : decode cX10_townLine 177 = .ok (.iastore, 1) := by decide +kernel
theorem dX10_townLine_178 : decode cX10_townLine 178 = .ok (.iconst 1, 1) := by decide +kernel
theorem dX10_townLine_179 : decode cX10_townLine 179 = .ok (.ireturn, 1) := by decide +kernel
theorem dX10_sightLine_0 : decode cX10_sightLine 0 = .ok (.lload_n 1, 1) := by decide +kernel
theorem dX10_sightLine_1 : decode cX10_sightLine 1 = .ok (.ldc2_w 231, 3) := by decide +kernel
theorem dX10_sightLine_4 : decode cX10_sightLine 4 = .ok (.lcmp, 1) := by decide +kernel
theorem dX10_sightLine_5 : decode cX10_sightLine 5 = .ok (.ifCond .ne 7, 3) := by decide +kernel
theorem dX10_sightLine_8 : decode cX10_sightLine 8 = .ok (.iconst 0, 1) := by decide +kernel
theorem dX10_sightLine_9 : decode cX10_sightLine 9 = .ok (.goto 28, 3) := by decide +kernel
theorem dX10_sightLine_12 : decode cX10_sightLine 12 = .ok (.lload_n 1, 1) := by decide +kernel
theorem dX10_sightLine_13 : decode cX10_sightLine 13 = .ok (.ldc2_w 233, 3) := by decide +kernel
theorem dX10_sightLine_16 : decode cX10_sightLine 16 = .ok (.lcmp, 1) := by decide +kernel
theorem dX10_sightLine_17 : decode cX10_sightLine 17 = .ok (.ifCond .ne 7, 3) := by decide +kernel
theorem dX10_sightLine_20 : decode cX10_sightLine 20 = .ok (.iconst 1, 1) := by decide +kernel
theorem dX10_sightLine_21 : decode cX10_sightLine 21 = .ok (.goto 16, 3) := by decide +kernel
theorem dX10_sightLine_24 : decode cX10_sightLine 24 = .ok (.lload_n 1, 1) := by decide +kernel
theorem dX10_sightLine_25 : decode cX10_sightLine 25 = .ok (.ldc2_w 235, 3) := by decide +kernel
theorem dX10_sightLine_28 : decode cX10_sightLine 28 = .ok (.lcmp, 1) := by decide +kernel
theorem dX10_sightLine_29 : decode cX10_sightLine 29 = .ok (.ifCond .ne 7, 3) := by decide +kernel
theorem dX10_sightLine_32 : decode cX10_sightLine 32 = .ok (.iconst 2, 1) := by decide +kernel
theorem dX10_sightLine_33 : decode cX10_sightLine 33 = .ok (.goto 4, 3) := by decide +kernel
theorem dX10_sightLine_36 : decode cX10_sightLine 36 = .ok (.iconst (-1), 1) := by decide +kernel
theorem dX10_sightLine_37 : decode cX10_sightLine 37 = .ok (.istore 4, 2) := by decide +kernel
theorem dX10_sightLine_39 : decode cX10_sightLine 39 = .ok (.iload 4, 2) := by decide +kernel
theorem dX10_sightLine_41 : decode cX10_sightLine 41 = .ok (.iconst (-1), 1) := by decide +kernel
theorem dX10_sightLine_42 : decode cX10_sightLine 42 = .ok (.if_icmp .ne 8, 3) := by decide +kernel
theorem dX10_sightLine_45 : decode cX10_sightLine 45 = .ok (.aload_n 0, 1) := by decide +kernel
theorem dX10_sightLine_46 : decode cX10_sightLine 46 = .ok (.invokevirtual 146, 3) := by decide +kernel
theorem dX10_sightLine_49 : decode cX10_sightLine 49 = .ok (.ireturn, 1) := by decide +kernel
theorem dX10_sightLine_50 : decode cX10_sightLine 50 = .ok (.aload_n 0, 1) := by decide +kernel
theorem dX10_sightLine_51 : decode cX10_sightLine 51 = .ok (.iconst 0, 1) := by decide +kernel
theorem dX10_sightLine_52 : decode cX10_sightLine 52 = .ok (.bipush 10, 2) := by decide +kernel
theorem dX10_sightLine_54 : decode cX10_sightLine 54 = .ok (.iload_n 3, 1) := by decide +kernel
theorem dX10_sightLine_55 : decode cX10_sightLine 55 = .ok (.invokevirtual 183, 3) := by decide +kernel
theorem dX10_sightLine_58 : decode cX10_sightLine 58 = .ok (.aload_n 0, 1) := by decide +kernel
theorem dX10_sightLine_59 : decode cX10_sightLine 59 = .ok (.invokevirtual 158, 3) := by decide +kernel
theorem dX10_sightLine_62 : decode cX10_sightLine 62 = .ok (.aload_n 0, 1) := by decide +kernel
theorem dX10_sightLine_63 : decode cX10_sightLine 63 = .ok (.iconst 1, 1) := by decide +kernel
theorem dX10_sightLine_64 : decode cX10_sightLine 64 = .ok (.iconst 0, 1) := by decide +kernel
theorem dX10_sightLine_65 : decode cX10_sightLine 65 = .ok (.bipush 8, 2) := by decide +kernel
theorem dX10_sightLine_67 : decode cX10_sightLine 67 = .ok (.invokevirtual 165, 3) := by decide +kernel
theorem dX10_sightLine_70 : decode cX10_sightLine 70 = .ok (.ifCond .eq 29, 3) := by decide +kernel
theorem dX10_sightLine_73 : decode cX10_sightLine 73 = .ok (.aload_n 0, 1) := by decide +kernel
theorem dX10_sightLine_74 : decode cX10_sightLine 74 = .ok (.iconst 2, 1) := by decide +kernel
theorem dX10_sightLine_75 : decode cX10_sightLine 75 = .ok (.iconst 0, 1) := by decide +kernel
theorem dX10_sightLine_76 : decode cX10_sightLine 76 = .ok (.bipush 8, 2) := by decide +kernel
theorem dX10_sightLine_78 : decode cX10_sightLine 78 = .ok (.iload 4, 2) := by decide +kernel
theorem dX10_sightLine_80 : decode cX10_sightLine 80 = .ok (.ifCond .ne 12, 3) := by decide +kernel
theorem dX10_sightLine_83 : decode cX10_sightLine 83 = .ok (.aload_n 0, 1) := by decide +kernel
theorem dX10_sightLine_84 : decode cX10_sightLine 84 = .ok (.getfield 41, 3) := by decide +kernel
theorem dX10_sightLine_87 : decode cX10_sightLine 87 = .ok (.iconst 1, 1) := by decide +kernel
theorem dX10_sightLine_88 : decode cX10_sightLine 88 = .ok (.iaload, 1) := by decide +kernel
theorem dX10_sightLine_89 : decode cX10_sightLine 89 = .ok (.goto 4, 3) := by decide +kernel
theorem dX10_sightLine_92 : decode cX10_sightLine 92 = .ok (.iconst (-1), 1) := by decide +kernel
theorem dX10_sightLine_93 : decode cX10_sightLine 93 = .ok (.invokevirtual 161, 3) := by decide +kernel
theorem dX10_sightLine_96 : decode cX10_sightLine 96 = .ok (.ifCond .ne 5, 3) := by decide +kernel
theorem dX10_sightLine_99 : decode cX10_sightLine 99 = .ok (.iconst 0, 1) := by decide +kernel
theorem dX10_sightLine_100 : decode cX10_sightLine 100 = .ok (.ireturn, 1) := by decide +kernel
theorem dX10_sightLine_101 : decode cX10_sightLine 101 = .ok (.aload_n 0, 1) := by decide +kernel
theorem dX10_sightLine_102 : decode cX10_sightLine 102 = .ok (.getfield 41, 3) := by decide +kernel
theorem dX10_sightLine_105 : decode cX10_sightLine 105 = .ok (.iconst 0, 1) := by decide +kernel
theorem dX10_sightLine_106 : decode cX10_sightLine 106 = .ok (.iload 4, 2) := by decide +kernel
theorem dX10_sightLine_108 : decode cX10_sightLine 108 = .ok (.iastore, 1) := by decide +kernel
theorem dX10_sightLine_109 : decode cX10_sightLine 109 = .ok (.aload_n 0, 1) := by decide +kernel
theorem dX10_sightLine_110 : decode cX10_sightLine 110 = .ok (.iconst 3, 1) := by decide +kernel
theorem dX10_sightLine_111 : decode cX10_sightLine 111 = .ok (.bipush 10, 2) := by decide +kernel
theorem dX10_sightLine_113 : decode cX10_sightLine 113 = .ok (.invokevirtual 212, 3) := by decide +kernel
theorem dX10_sightLine_116 : decode cX10_sightLine 116 = .ok (.iconst 1, 1) := by decide +kernel
theorem dX10_sightLine_117 : decode cX10_sightLine 117 = .ok (.ireturn, 1) := by decide +kernel
theorem dX10_lineOf_0 : decode cX10_lineOf 0 = .ok (.iload_n 1, 1) := by decide +kernel
theorem dX10_lineOf_1 : decode cX10_lineOf 1 = .ok (.tableswitch 51 0 2 #[27, 35, 43], 27) := by decide +kernel
theorem dX10_lineOf_28 : decode cX10_lineOf 28 = .ok (.aload_n 0, 1) := by decide +kernel
theorem dX10_lineOf_29 : decode cX10_lineOf 29 = .ok (.lload_n 2, 1) := by decide +kernel
theorem dX10_lineOf_30 : decode cX10_lineOf 30 = .ok (.iload 4, 2) := by decide +kernel
theorem dX10_lineOf_32 : decode cX10_lineOf 32 = .ok (.invokevirtual 237, 3) := by decide +kernel
theorem dX10_lineOf_35 : decode cX10_lineOf 35 = .ok (.ireturn, 1) := by decide +kernel
theorem dX10_lineOf_36 : decode cX10_lineOf 36 = .ok (.aload_n 0, 1) := by decide +kernel
theorem dX10_lineOf_37 : decode cX10_lineOf 37 = .ok (.lload_n 2, 1) := by decide +kernel
theorem dX10_lineOf_38 : decode cX10_lineOf 38 = .ok (.iload 4, 2) := by decide +kernel
theorem dX10_lineOf_40 : decode cX10_lineOf 40 = .ok (.invokevirtual 241, 3) := by decide +kernel
theorem dX10_lineOf_43 : decode cX10_lineOf 43 = .ok (.ireturn, 1) := by decide +kernel
theorem dX10_lineOf_44 : decode cX10_lineOf 44 = .ok (.aload_n 0, 1) := by decide +kernel
theorem dX10_lineOf_45 : decode cX10_lineOf 45 = .ok (.lload_n 2, 1) := by decide +kernel
theorem dX10_lineOf_46 : decode cX10_lineOf 46 = .ok (.iload 4, 2) := by decide +kernel
theorem dX10_lineOf_48 : decode cX10_lineOf 48 = .ok (.invokevirtual 244, 3) := by decide +kernel
theorem dX10_lineOf_51 : decode cX10_lineOf 51 = .ok (.ireturn, 1) := by decide +kernel
theorem dX10_lineOf_52 : decode cX10_lineOf 52 = .ok (.aload_n 0, 1) := by decide +kernel
theorem dX10_lineOf_53 : decode cX10_lineOf 53 = .ok (.lload_n 2, 1) := by decide +kernel
theorem dX10_lineOf_54 : decode cX10_lineOf 54 = .ok (.iload 4, 2) := by decide +kernel
theorem dX10_lineOf_56 : decode cX10_lineOf 56 = .ok (.invokevirtual 247, 3) := by decide +kernel
theorem dX10_lineOf_59 : decode cX10_lineOf 59 = .ok (.ireturn, 1) := by decide +kernel
theorem dX10_lines_0 : decode cX10_lines 0 = .ok (.iconst 1, 1) := by decide +kernel
theorem dX10_lines_1 : decode cX10_lines 1 = .ok (.istore_n 2, 1) := by decide +kernel
theorem dX10_lines_2 : decode cX10_lines 2 = .ok (.iload_n 2, 1) := by decide +kernel
theorem dX10_lines_3 : decode cX10_lines 3 = .ok (.ifCond .eq 71, 3) := by decide +kernel
theorem dX10_lines_6 : decode cX10_lines 6 = .ok (.aload_n 0, 1) := by decide +kernel
theorem dX10_lines_7 : decode cX10_lines 7 = .ok (.getfield 131, 3) := by decide +kernel
theorem dX10_lines_10 : decode cX10_lines 10 = .ok (.ifCond .eq 64, 3) := by decide +kernel
theorem dX10_lines_13 : decode cX10_lines 13 = .ok (.aload_n 0, 1) := by decide +kernel
theorem dX10_lines_14 : decode cX10_lines 14 = .ok (.getfield 124, 3) := by decide +kernel
theorem dX10_lines_17 : decode cX10_lines 17 = .ok (.istore_n 3, 1) := by decide +kernel
theorem dX10_lines_18 : decode cX10_lines 18 = .ok (.aload_n 0, 1) := by decide +kernel
theorem dX10_lines_19 : decode cX10_lines 19 = .ok (.iconst 1, 1) := by decide +kernel
theorem dX10_lines_20 : decode cX10_lines 20 = .ok (.putfield 154, 3) := by decide +kernel
theorem dX10_lines_23 : decode cX10_lines 23 = .ok (.aload_n 0, 1) := by decide +kernel
theorem dX10_lines_24 : decode cX10_lines 24 = .ok (.iload_n 1, 1) := by decide +kernel
theorem dX10_lines_25 : decode cX10_lines 25 = .ok (.aload_n 0, 1) := by decide +kernel
theorem dX10_lines_26 : decode cX10_lines 26 = .ok (.getfield 131, 3) := by decide +kernel
theorem dX10_lines_29 : decode cX10_lines 29 = .ok (.iconst 2, 1) := by decide +kernel
theorem dX10_lines_30 : decode cX10_lines 30 = .ok (.if_icmp .ne 10, 3) := by decide +kernel
theorem dX10_lines_33 : decode cX10_lines 33 = .ok (.aload_n 0, 1) := by decide +kernel
theorem dX10_lines_34 : decode cX10_lines 34 = .ok (.getfield 127, 3) := by decide +kernel
theorem dX10_lines_37 : decode cX10_lines 37 = .ok (.goto 4, 3) := by decide +kernel
theorem dX10_lines_40 : decode cX10_lines 40 = .ok (.lconst 0, 1) := by decide +kernel
theorem dX10_lines_41 : decode cX10_lines 41 = .ok (.iload_n 3, 1) := by decide +kernel
theorem dX10_lines_42 : decode cX10_lines 42 = .ok (.invokevirtual 250, 3) := by decide +kernel
theorem dX10_lines_45 : decode cX10_lines 45 = .ok (.istore_n 2, 1) := by decide +kernel
theorem dX10_lines_46 : decode cX10_lines 46 = .ok (.iload_n 2, 1) := by decide +kernel
theorem dX10_lines_47 : decode cX10_lines 47 = .ok (.ifCond .eq 16, 3) := by decide +kernel
theorem dX10_lines_50 : decode cX10_lines 50 = .ok (.aload_n 0, 1) := by decide +kernel
theorem dX10_lines_51 : decode cX10_lines 51 = .ok (.getfield 131, 3) := by decide +kernel
theorem dX10_lines_54 : decode cX10_lines 54 = .ok (.iconst 4, 1) := by decide +kernel
theorem dX10_lines_55 : decode cX10_lines 55 = .ok (.if_icmp .eq 8, 3) := by decide +kernel
theorem dX10_lines_58 : decode cX10_lines 58 = .ok (.aload_n 0, 1) := by decide +kernel
theorem dX10_lines_59 : decode cX10_lines 59 = .ok (.invokevirtual 146, 3) := by decide +kernel
theorem dX10_lines_62 : decode cX10_lines 62 = .ok (.istore_n 2, 1) := by decide +kernel
theorem dX10_lines_63 : decode cX10_lines 63 = .ok (.iload_n 2, 1) := by decide +kernel
theorem dX10_lines_64 : decode cX10_lines 64 = .ok (.ifCond .eq 7, 3) := by decide +kernel
theorem dX10_lines_67 : decode cX10_lines 67 = .ok (.aload_n 0, 1) := by decide +kernel
theorem dX10_lines_68 : decode cX10_lines 68 = .ok (.invokevirtual 158, 3) := by decide +kernel
theorem dX10_lines_71 : decode cX10_lines 71 = .ok (.goto (-69), 3) := by decide +kernel
theorem dX10_lines_74 : decode cX10_lines 74 = .ok (.iload_n 2, 1) := by decide +kernel
theorem dX10_lines_75 : decode cX10_lines 75 = .ok (.ireturn, 1) := by decide +kernel
theorem dX10_blank_0 : decode cX10_blank 0 = .ok (.iconst 0, 1) := by decide +kernel
theorem dX10_blank_1 : decode cX10_blank 1 = .ok (.istore_n 2, 1) := by decide +kernel
theorem dX10_blank_2 : decode cX10_blank 2 = .ok (.iload_n 2, 1) := by decide +kernel
theorem dX10_blank_3 : decode cX10_blank 3 = .ok (.sipush 138, 3) := by decide +kernel
theorem dX10_blank_6 : decode cX10_blank 6 = .ok (.if_icmp .ge 36, 3) := by decide +kernel
theorem dX10_blank_9 : decode cX10_blank 9 = .ok (.aload_n 0, 1) := by decide +kernel
theorem dX10_blank_10 : decode cX10_blank 10 = .ok (.getfield 38, 3) := by decide +kernel
theorem dX10_blank_13 : decode cX10_blank 13 = .ok (.iload_n 2, 1) := by decide +kernel
theorem dX10_blank_14 : decode cX10_blank 14 = .ok (.iload_n 1, 1) := by decide +kernel
theorem dX10_blank_15 : decode cX10_blank 15 = .ok (.iconst 2, 1) := by decide +kernel
theorem dX10_blank_16 : decode cX10_blank 16 = .ok (.if_icmp .ne 18, 3) := by decide +kernel
theorem dX10_blank_19 : decode cX10_blank 19 = .ok (.iload_n 2, 1) := by decide +kernel
theorem dX10_blank_20 : decode cX10_blank 20 = .ok (.bipush 29, 2) := by decide +kernel
theorem dX10_blank_22 : decode cX10_blank 22 = .ok (.bipush 40, 2) := by decide +kernel
theorem dX10_blank_24 : decode cX10_blank 24 = .ok (.invokestatic 106, 3) := by decide +kernel
theorem dX10_blank_27 : decode cX10_blank 27 = .ok (.ifCond .eq 7, 3) := by decide +kernel
theorem dX10_blank_30 : decode cX10_blank 30 = .ok (.iconst (-1), 1) := by decide +kernel
theorem dX10_blank_31 : decode cX10_blank 31 = .ok (.goto 4, 3) := by decide +kernel
theorem dX10_blank_34 : decode cX10_blank 34 = .ok (.iconst 0, 1) := by decide +kernel
theorem dX10_blank_35 : decode cX10_blank 35 = .ok (.iastore, 1) := by decide +kernel
theorem dX10_blank_36 : decode cX10_blank 36 = .ok (.iinc 2 1, 3) := by decide +kernel
theorem dX10_blank_39 : decode cX10_blank 39 = .ok (.goto (-37), 3) := by decide +kernel
theorem dX10_blank_42 : decode cX10_blank 42 = .ok (.iload_n 1, 1) := by decide +kernel
theorem dX10_blank_43 : decode cX10_blank 43 = .ok (.ifCond .ne 10, 3) := by decide +kernel
theorem dX10_blank_46 : decode cX10_blank 46 = .ok (.aload_n 0, 1) := by decide +kernel
theorem dX10_blank_47 : decode cX10_blank 47 = .ok (.getfield 38, 3) := by decide +kernel
theorem dX10_blank_50 : decode cX10_blank 50 = .ok (.iconst 1, 1) := by decide +kernel
theorem dX10_blank_51 : decode cX10_blank 51 = .ok (.iconst 1, 1) := by decide +kernel
theorem dX10_blank_52 : decode cX10_blank 52 = .ok (.iastore, 1) := by decide +kernel
theorem dX10_blank_53 : decode cX10_blank 53 = .ok (.iload_n 1, 1) := by decide +kernel
theorem dX10_blank_54 : decode cX10_blank 54 = .ok (.iconst 2, 1) := by decide +kernel
theorem dX10_blank_55 : decode cX10_blank 55 = .ok (.if_icmp .ne 17, 3) := by decide +kernel
theorem dX10_blank_58 : decode cX10_blank 58 = .ok (.aload_n 0, 1) := by decide +kernel
theorem dX10_blank_59 : decode cX10_blank 59 = .ok (.getfield 38, 3) := by decide +kernel
theorem dX10_blank_62 : decode cX10_blank 62 = .ok (.iconst 1, 1) := by decide +kernel
theorem dX10_blank_63 : decode cX10_blank 63 = .ok (.iconst 3, 1) := by decide +kernel
theorem dX10_blank_64 : decode cX10_blank 64 = .ok (.iastore, 1) := by decide +kernel
theorem dX10_blank_65 : decode cX10_blank 65 = .ok (.aload_n 0, 1) := by decide +kernel
theorem dX10_blank_66 : decode cX10_blank 66 = .ok (.getfield 38, 3) := by decide +kernel
theorem dX10_blank_69 : decode cX10_blank 69 = .ok (.iconst 2, 1) := by decide +kernel
theorem dX10_blank_70 : decode cX10_blank 70 = .ok (.iconst 2, 1) := by decide +kernel
theorem dX10_blank_71 : decode cX10_blank 71 = .ok (.iastore, 1) := by decide +kernel
theorem dX10_blank_72 : decode cX10_blank 72 = .ok (.return_, 1) := by decide +kernel
theorem dX10_readText_0 : decode cX10_readText 0 = .ok (.aload_n 0, 1) := by decide +kernel
theorem dX10_readText_1 : decode cX10_readText 1 = .ok (.iload_n 1, 1) := by decide +kernel
theorem dX10_readText_2 : decode cX10_readText 2 = .ok (.invokevirtual 254, 3) := by decide +kernel
theorem dX10_readText_5 : decode cX10_readText 5 = .ok (.aload_n 0, 1) := by decide +kernel
theorem dX10_readText_6 : decode cX10_readText 6 = .ok (.iconst (-1), 1) := by decide +kernel
theorem dX10_readText_7 : decode cX10_readText 7 = .ok (.putfield 168, 3) := by decide +kernel
theorem dX10_readText_10 : decode cX10_readText 10 = .ok (.aload_n 0, 1) := by decide +kernel
theorem dX10_readText_11 : decode cX10_readText 11 = .ok (.iconst 0, 1) := by decide +kernel
theorem dX10_readText_12 : decode cX10_readText 12 = .ok (.putfield 114, 3) := by decide +kernel
theorem dX10_readText_15 : decode cX10_readText 15 = .ok (.aload_n 0, 1) := by decide +kernel
theorem dX10_readText_16 : decode cX10_readText 16 = .ok (.iconst 0, 1) := by decide +kernel
theorem dX10_readText_17 : decode cX10_readText 17 = .ok (.putfield 140, 3) := by decide +kernel
theorem dX10_readText_20 : decode cX10_readText 20 = .ok (.aload_n 0, 1) := by decide +kernel
theorem dX10_readText_21 : decode cX10_readText 21 = .ok (.invokevirtual 158, 3) := by decide +kernel
theorem dX10_readText_24 : decode cX10_readText 24 = .ok (.aload_n 0, 1) := by decide +kernel
theorem dX10_readText_25 : decode cX10_readText 25 = .ok (.iload_n 1, 1) := by decide +kernel
theorem dX10_readText_26 : decode cX10_readText 26 = .ok (.invokevirtual 257, 3) := by decide +kernel
theorem dX10_readText_29 : decode cX10_readText 29 = .ok (.istore_n 2, 1) := by decide +kernel
theorem dX10_readText_30 : decode cX10_readText 30 = .ok (.iload_n 2, 1) := by decide +kernel
theorem dX10_readText_31 : decode cX10_readText 31 = .ok (.ifCond .eq 41, 3) := by decide +kernel
theorem dX10_readText_34 : decode cX10_readText 34 = .ok (.aload_n 0, 1) := by decide +kernel
theorem dX10_readText_35 : decode cX10_readText 35 = .ok (.getfield 140, 3) := by decide +kernel
theorem dX10_readText_38 : decode cX10_readText 38 = .ok (.ifCond .ne 34, 3) := by decide +kernel
theorem dX10_readText_41 : decode cX10_readText 41 = .ok (.iload_n 1, 1) := by decide +kernel
theorem dX10_readText_42 : decode cX10_readText 42 = .ok (.ifCond .eq 8, 3) := by decide +kernel
theorem dX10_readText_45 : decode cX10_readText 45 = .ok (.iload_n 1, 1) := by decide +kernel
theorem dX10_readText_46 : decode cX10_readText 46 = .ok (.iconst 2, 1) := by decide +kernel
theorem dX10_readText_47 : decode cX10_readText 47 = .ok (.if_icmp .ne 25, 3) := by decide +kernel
theorem dX10_readText_50 : decode cX10_readText 50 = .ok (.aload_n 0, 1) := by decide +kernel
theorem dX10_readText_51 : decode cX10_readText 51 = .ok (.getfield 168, 3) := by decide +kernel
theorem dX10_readText_54 : decode cX10_readText 54 = .ok (.aload_n 0, 1) := by decide +kernel
theorem dX10_readText_55 : decode cX10_readText 55 = .ok (.getfield 38, 3) := by decide +kernel
theorem dX10_readText_58 : decode cX10_readText 58 = .ok (.iconst 0, 1) := by decide +kernel
theorem dX10_readText_59 : decode cX10_readText 59 = .ok (.iaload, 1) := by decide +kernel
theorem dX10_readText_60 : decode cX10_readText 60 = .ok (.if_icmp .lt 12, 3) := by decide +kernel
theorem dX10_readText_63 : decode cX10_readText 63 = .ok (.aload_n 0, 1) := by decide +kernel
theorem dX10_readText_64 : decode cX10_readText 64 = .ok (.iconst 4, 1) := by decide +kernel
theorem dX10_readText_65 : decode cX10_readText 65 = .ok (.aload_n 0, 1) := by decide +kernel
theorem dX10_readText_66 : decode cX10_readText 66 = .ok (.getfield 124, 3) := by decide +kernel
theorem dX10_readText_69 : decode cX10_readText 69 = .ok (.invokevirtual 150, 3) := by decide +kernel
theorem dX10_readText_72 : decode cX10_readText 72 = .ok (.aload_n 0, 1) := by decide +kernel
theorem dX10_readText_73 : decode cX10_readText 73 = .ok (.getfield 17, 3) := by decide +kernel
theorem dX10_readText_76 : decode cX10_readText 76 = .ok (.iconst 0, 1) := by decide +kernel
theorem dX10_readText_77 : decode cX10_readText 77 = .ok (.iload_n 2, 1) := by decide +kernel
theorem dX10_readText_78 : decode cX10_readText 78 = .ok (.ifCond .eq 10, 3) := by decide +kernel
theorem dX10_readText_81 : decode cX10_readText 81 = .ok (.aload_n 0, 1) := by decide +kernel
theorem dX10_readText_82 : decode cX10_readText 82 = .ok (.getfield 140, 3) := by decide +kernel
theorem dX10_readText_85 : decode cX10_readText 85 = .ok (.goto 4, 3) := by decide +kernel
theorem dX10_readText_88 : decode cX10_readText 88 = .ok (.iconst 1, 1) := by decide +kernel
theorem dX10_readText_89 : decode cX10_readText 89 = .ok (.iastore, 1) := by decide +kernel
theorem dX10_readText_90 : decode cX10_readText 90 = .ok (.aload_n 0, 1) := by decide +kernel
theorem dX10_readText_91 : decode cX10_readText 91 = .ok (.getfield 20, 3) := by decide +kernel
theorem dX10_readText_94 : decode cX10_readText 94 = .ok (.iconst 0, 1) := by decide +kernel
theorem dX10_readText_95 : decode cX10_readText 95 = .ok (.iload_n 2, 1) := by decide +kernel
theorem dX10_readText_96 : decode cX10_readText 96 = .ok (.ifCond .ne 10, 3) := by decide +kernel
theorem dX10_readText_99 : decode cX10_readText 99 = .ok (.aload_n 0, 1) := by decide +kernel
theorem dX10_readText_100 : decode cX10_readText 100 = .ok (.getfield 137, 3) := by decide +kernel
theorem dX10_readText_103 : decode cX10_readText 103 = .ok (.goto 18, 3) := by decide +kernel
theorem dX10_readText_106 : decode cX10_readText 106 = .ok (.aload_n 0, 1) := by decide +kernel
theorem dX10_readText_107 : decode cX10_readText 107 = .ok (.getfield 140, 3) := by decide +kernel
theorem dX10_readText_110 : decode cX10_readText 110 = .ok (.ifCond .le 10, 3) := by decide +kernel
theorem dX10_readText_113 : decode cX10_readText 113 = .ok (.aload_n 0, 1) := by decide +kernel
theorem dX10_readText_114 : decode cX10_readText 114 = .ok (.getfield 143, 3) := by decide +kernel
theorem dX10_readText_117 : decode cX10_readText 117 = .ok (.goto 4, 3) := by decide +kernel
theorem dX10_readText_120 : decode cX10_readText 120 = .ok (.iconst (-1), 1) := by decide +kernel
theorem dX10_readText_121 : decode cX10_readText 121 = .ok (.iastore, 1) := by decide +kernel
theorem dX10_readText_122 : decode cX10_readText 122 = .ok (.aload_n 0, 1) := by decide +kernel
theorem dX10_readText_123 : decode cX10_readText 123 = .ok (.getfield 17, 3) := by decide +kernel
theorem dX10_readText_126 : decode cX10_readText 126 = .ok (.iconst 0, 1) := by decide +kernel
theorem dX10_readText_127 : decode cX10_readText 127 = .ok (.iaload, 1) := by decide +kernel
theorem dX10_readText_128 : decode cX10_readText 128 = .ok (.ifCond .ne 7, 3) := by decide +kernel
theorem dX10_readText_131 : decode cX10_readText 131 = .ok (.iconst 1, 1) := by decide +kernel
theorem dX10_readText_132 : decode cX10_readText 132 = .ok (.goto 4, 3) := by decide +kernel
theorem dX10_readText_135 : decode cX10_readText 135 = .ok (.iconst 0, 1) := by decide +kernel
theorem dX10_readText_136 : decode cX10_readText 136 = .ok (.ireturn, 1) := by decide +kernel
theorem dX10_store_0 : decode cX10_store 0 = .ok (.iconst 0, 1) := by decide +kernel
theorem dX10_store_1 : decode cX10_store 1 = .ok (.istore 4, 2) := by decide +kernel
theorem dX10_store_3 : decode cX10_store 3 = .ok (.iload 4, 2) := by decide +kernel
theorem dX10_store_5 : decode cX10_store 5 = .ok (.iload_n 2, 1) := by decide +kernel
theorem dX10_store_6 : decode cX10_store 6 = .ok (.if_icmp .ge 24, 3) := by decide +kernel
theorem dX10_store_9 : decode cX10_store 9 = .ok (.aload_n 1, 1) := by decide +kernel
theorem dX10_store_10 : decode cX10_store 10 = .ok (.iload_n 2, 1) := by decide +kernel
theorem dX10_store_11 : decode cX10_store 11 = .ok (.iload_n 3, 1) := by decide +kernel
theorem dX10_store_12 : decode cX10_store 12 = .ok (.imul, 1) := by decide +kernel
theorem dX10_store_13 : decode cX10_store 13 = .ok (.iload 4, 2) := by decide +kernel
theorem dX10_store_15 : decode cX10_store 15 = .ok (.iadd, 1) := by decide +kernel
theorem dX10_store_16 : decode cX10_store 16 = .ok (.aload_n 0, 1) := by decide +kernel
theorem dX10_store_17 : decode cX10_store 17 = .ok (.getfield 38, 3) := by decide +kernel
theorem dX10_store_20 : decode cX10_store 20 = .ok (.iload 4, 2) := by decide +kernel
theorem dX10_store_22 : decode cX10_store 22 = .ok (.iaload, 1) := by decide +kernel
theorem dX10_store_23 : decode cX10_store 23 = .ok (.iastore, 1) := by decide +kernel
theorem dX10_store_24 : decode cX10_store 24 = .ok (.iinc 4 1, 3) := by decide +kernel
theorem dX10_store_27 : decode cX10_store 27 = .ok (.goto (-24), 3) := by decide +kernel
theorem dX10_store_30 : decode cX10_store 30 = .ok (.return_, 1) := by decide +kernel
theorem dX10_storeAll_0 : decode cX10_storeAll 0 = .ok (.iload_n 1, 1) := by decide +kernel
theorem dX10_storeAll_1 : decode cX10_storeAll 1 = .ok (.tableswitch 64 0 2 #[27, 40, 52], 27) := by decide +kernel
theorem dX10_storeAll_28 : decode cX10_storeAll 28 = .ok (.aload_n 0, 1) := by decide +kernel
theorem dX10_storeAll_29 : decode cX10_storeAll 29 = .ok (.aload_n 0, 1) := by decide +kernel
theorem dX10_storeAll_30 : decode cX10_storeAll 30 = .ok (.getfield 26, 3) := by decide +kernel
theorem dX10_storeAll_33 : decode cX10_storeAll 33 = .ok (.sipush 138, 3) := by decide +kernel
theorem dX10_storeAll_36 : decode cX10_storeAll 36 = .ok (.iload_n 2, 1) := by decide +kernel
theorem dX10_storeAll_37 : decode cX10_storeAll 37 = .ok (.invokevirtual 261, 3) := by decide +kernel
theorem dX10_storeAll_40 : decode cX10_storeAll 40 = .ok (.return_, 1) := by decide +kernel
theorem dX10_storeAll_41 : decode cX10_storeAll 41 = .ok (.aload_n 0, 1) := by decide +kernel
theorem dX10_storeAll_42 : decode cX10_storeAll 42 = .ok (.aload_n 0, 1) := by decide +kernel
theorem dX10_storeAll_43 : decode cX10_storeAll 43 = .ok (.getfield 29, 3) := by decide +kernel
theorem dX10_storeAll_46 : decode cX10_storeAll 46 = .ok (.bipush 81, 2) := by decide +kernel
theorem dX10_storeAll_48 : decode cX10_storeAll 48 = .ok (.iload_n 2, 1) := by decide +kernel
theorem dX10_storeAll_49 : decode cX10_storeAll 49 = .ok (.invokevirtual 261, 3) := by decide +kernel
theorem dX10_storeAll_52 : decode cX10_storeAll 52 = .ok (.return_, 1) := by decide +kernel
theorem dX10_storeAll_53 : decode cX10_storeAll 53 = .ok (.aload_n 0, 1) := by decide +kernel
theorem dX10_storeAll_54 : decode cX10_storeAll 54 = .ok (.aload_n 0, 1) := by decide +kernel
theorem dX10_storeAll_55 : decode cX10_storeAll 55 = .ok (.getfield 32, 3) := by decide +kernel
theorem dX10_storeAll_58 : decode cX10_storeAll 58 = .ok (.bipush 41, 2) := by decide +kernel
theorem dX10_storeAll_60 : decode cX10_storeAll 60 = .ok (.iload_n 2, 1) := by decide +kernel
theorem dX10_storeAll_61 : decode cX10_storeAll 61 = .ok (.invokevirtual 261, 3) := by decide +kernel
theorem dX10_storeAll_64 : decode cX10_storeAll 64 = .ok (.return_, 1) := by decide +kernel
theorem dX10_storeAll_65 : decode cX10_storeAll 65 = .ok (.aload_n 0, 1) := by decide +kernel
theorem dX10_storeAll_66 : decode cX10_storeAll 66 = .ok (.aload_n 0, 1) := by decide +kernel
theorem dX10_storeAll_67 : decode cX10_storeAll 67 = .ok (.getfield 35, 3) := by decide +kernel
theorem dX10_storeAll_70 : decode cX10_storeAll 70 = .ok (.bipush 31, 2) := by decide +kernel
theorem dX10_storeAll_72 : decode cX10_storeAll 72 = .ok (.iload_n 2, 1) := by decide +kernel
theorem dX10_storeAll_73 : decode cX10_storeAll 73 = .ok (.invokevirtual 261, 3) := by decide +kernel
theorem dX10_storeAll_76 : decode cX10_storeAll 76 = .ok (.return_, 1) := by decide +kernel
theorem dX10_text_0 : decode cX10_text 0 = .ok (.aload_n 0, 1) := by decide +kernel
theorem dX10_text_1 : decode cX10_text 1 = .ok (.iconst 0, 1) := by decide +kernel
theorem dX10_text_2 : decode cX10_text 2 = .ok (.putfield 94, 3) := by decide +kernel
theorem dX10_text_5 : decode cX10_text 5 = .ok (.aload_n 0, 1) := by decide +kernel
theorem dX10_text_6 : decode cX10_text 6 = .ok (.aload_n 0, 1) := by decide +kernel
theorem dX10_text_7 : decode cX10_text 7 = .ok (.getfield 13, 3) := by decide +kernel
theorem dX10_text_10 : decode cX10_text 10 = .ok (.iconst 0, 1) := by decide +kernel
theorem dX10_text_11 : decode cX10_text 11 = .ok (.iaload, 1) := by decide +kernel
theorem dX10_text_12 : decode cX10_text 12 = .ok (.putfield 117, 3) := by decide +kernel
theorem dX10_text_15 : decode cX10_text 15 = .ok (.aload_n 0, 1) := by decide +kernel
theorem dX10_text_16 : decode cX10_text 16 = .ok (.getfield 13, 3) := by decide +kernel
theorem dX10_text_19 : decode cX10_text 19 = .ok (.iconst 0, 1) := by decide +kernel
theorem dX10_text_20 : decode cX10_text 20 = .ok (.iconst 0, 1) := by decide +kernel
theorem dX10_text_21 : decode cX10_text 21 = .ok (.iastore, 1) := by decide +kernel
theorem dX10_text_22 : decode cX10_text 22 = .ok (.aload_n 0, 1) := by decide +kernel
theorem dX10_text_23 : decode cX10_text 23 = .ok (.getfield 17, 3) := by decide +kernel
theorem dX10_text_26 : decode cX10_text 26 = .ok (.iconst 0, 1) := by decide +kernel
theorem dX10_text_27 : decode cX10_text 27 = .ok (.iconst 0, 1) := by decide +kernel
theorem dX10_text_28 : decode cX10_text 28 = .ok (.iastore, 1) := by decide +kernel
theorem dX10_text_29 : decode cX10_text 29 = .ok (.aload_n 0, 1) := by decide +kernel
theorem dX10_text_30 : decode cX10_text 30 = .ok (.getfield 20, 3) := by decide +kernel
theorem dX10_text_33 : decode cX10_text 33 = .ok (.iconst 0, 1) := by decide +kernel
theorem dX10_text_34 : decode cX10_text 34 = .ok (.iconst (-1), 1) := by decide +kernel
theorem dX10_text_35 : decode cX10_text 35 = .ok (.iastore, 1) := by decide +kernel
theorem dX10_text_36 : decode cX10_text 36 = .ok (.iload_n 1, 1) := by decide +kernel
theorem dX10_text_37 : decode cX10_text 37 = .ok (.iconst 0, 1) := by decide +kernel
theorem dX10_text_38 : decode cX10_text 38 = .ok (.iconst 3, 1) := by decide +kernel
theorem dX10_text_39 : decode cX10_text 39 = .ok (.invokestatic 106, 3) := by decide +kernel
theorem dX10_text_42 : decode cX10_text 42 = .ok (.ifCond .eq 30, 3) := by decide +kernel
theorem dX10_text_45 : decode cX10_text 45 = .ok (.iload_n 2, 1) := by decide +kernel
theorem dX10_text_46 : decode cX10_text 46 = .ok (.iconst (-1), 1) := by decide +kernel
theorem dX10_text_47 : decode cX10_text 47 = .ok (.if_icmp .ne 16, 3) := by decide +kernel
theorem dX10_text_50 : decode cX10_text 50 = .ok (.aload_n 0, 1) := by decide +kernel
theorem dX10_text_51 : decode cX10_text 51 = .ok (.getfield 23, 3) := by decide +kernel
theorem dX10_text_54 : decode cX10_text 54 = .ok (.iload_n 1, 1) := by decide +kernel
theorem dX10_text_55 : decode cX10_text 55 = .ok (.iaload, 1) := by decide +kernel
theorem dX10_text_56 : decode cX10_text 56 = .ok (.iconst 2, 1) := by decide +kernel
theorem dX10_text_57 : decode cX10_text 57 = .ok (.if_icmp .ne 18, 3) := by decide +kernel
theorem dX10_text_60 : decode cX10_text 60 = .ok (.goto 12, 3) := by decide +kernel
theorem dX10_text_63 : decode cX10_text 63 = .ok (.aload_n 0, 1) := by decide +kernel
theorem dX10_text_64 : decode cX10_text 64 = .ok (.iload_n 1, 1) := by decide +kernel
theorem dX10_text_65 : decode cX10_text 65 = .ok (.iload_n 2, 1) := by decide +kernel
theorem dX10_text_66 : decode cX10_text 66 = .ok (.invokevirtual 265, 3) := by decide +kernel
theorem dX10_text_69 : decode cX10_text 69 = .ok (.ifCond .ne 6, 3) := by decide +kernel
theorem dX10_text_72 : decode cX10_text 72 = .ok (.bipush (-2), 2) := by decide +kernel
theorem dX10_text_74 : decode cX10_text 74 = .ok (.ireturn, 1) := by decide +kernel
theorem dX10_text_75 : decode cX10_text 75 = .ok (.aload_n 0, 1) := by decide +kernel
theorem dX10_text_76 : decode cX10_text 76 = .ok (.iload_n 1, 1) := by decide +kernel
theorem dX10_text_77 : decode cX10_text 77 = .ok (.invokevirtual 268, 3) := by decide +kernel
theorem dX10_text_80 : decode cX10_text 80 = .ok (.ifCond .ne 5, 3) := by decide +kernel
theorem dX10_text_83 : decode cX10_text 83 = .ok (.iconst (-1), 1) := by decide +kernel
theorem dX10_text_84 : decode cX10_text 84 = .ok (.ireturn, 1) := by decide +kernel
theorem dX10_text_85 : decode cX10_text 85 = .ok (.iload_n 2, 1) := by decide +kernel
theorem dX10_text_86 : decode cX10_text 86 = .ok (.iconst (-1), 1) := by decide +kernel
theorem dX10_text_87 : decode cX10_text 87 = .ok (.if_icmp .ne 12, 3) := by decide +kernel
theorem dX10_text_90 : decode cX10_text 90 = .ok (.aload_n 0, 1) := by decide +kernel
theorem dX10_text_91 : decode cX10_text 91 = .ok (.getfield 23, 3) := by decide +kernel
theorem dX10_text_94 : decode cX10_text 94 = .ok (.iload_n 1, 1) := by decide +kernel
theorem dX10_text_95 : decode cX10_text 95 = .ok (.iaload, 1) := by decide +kernel
theorem dX10_text_96 : decode cX10_text 96 = .ok (.goto 4, 3) := by decide +kernel
theorem dX10_text_99 : decode cX10_text 99 = .ok (.iload_n 2, 1) := by decide +kernel
theorem dX10_text_100 : decode cX10_text 100 = .ok (.istore_n 3, 1) := by decide +kernel
theorem dX10_text_101 : decode cX10_text 101 = .ok (.aload_n 0, 1) := by decide +kernel
theorem dX10_text_102 : decode cX10_text 102 = .ok (.getfield 23, 3) := by decide +kernel
theorem dX10_text_105 : decode cX10_text 105 = .ok (.iload_n 1, 1) := by decide +kernel
theorem dX10_text_106 : decode cX10_text 106 = .ok (.dup2, 1) := by decide +kernel
theorem dX10_text_107 : decode cX10_text 107 = .ok (.iaload, 1) := by decide +kernel
theorem dX10_text_108 : decode cX10_text 108 = .ok (.iload_n 2, 1) := by decide +kernel
theorem dX10_text_109 : decode cX10_text 109 = .ok (.iconst (-1), 1) := by decide +kernel
theorem dX10_text_110 : decode cX10_text 110 = .ok (.if_icmp .ne 7, 3) := by decide +kernel
theorem dX10_text_113 : decode cX10_text 113 = .ok (.iconst 1, 1) := by decide +kernel
theorem dX10_text_114 : decode cX10_text 114 = .ok (.goto 4, 3) := by decide +kernel
theorem dX10_text_117 : decode cX10_text 117 = .ok (.iconst 0, 1) := by decide +kernel
theorem dX10_text_118 : decode cX10_text 118 = .ok (.iadd, 1) := by decide +kernel
theorem dX10_text_119 : decode cX10_text 119 = .ok (.iastore, 1) := by decide +kernel
theorem dX10_text_120 : decode cX10_text 120 = .ok (.aload_n 0, 1) := by decide +kernel
theorem dX10_text_121 : decode cX10_text 121 = .ok (.iload_n 1, 1) := by decide +kernel
theorem dX10_text_122 : decode cX10_text 122 = .ok (.iload_n 3, 1) := by decide +kernel
theorem dX10_text_123 : decode cX10_text 123 = .ok (.invokevirtual 271, 3) := by decide +kernel
theorem dX10_text_126 : decode cX10_text 126 = .ok (.iload_n 3, 1) := by decide +kernel
theorem dX10_text_127 : decode cX10_text 127 = .ok (.ireturn, 1) := by decide +kernel
theorem dX10_fault_0 : decode cX10_fault 0 = .ok (.aload_n 0, 1) := by decide +kernel
theorem dX10_fault_1 : decode cX10_fault 1 = .ok (.iconst 0, 1) := by decide +kernel
theorem dX10_fault_2 : decode cX10_fault 2 = .ok (.putfield 94, 3) := by decide +kernel
theorem dX10_fault_5 : decode cX10_fault 5 = .ok (.iload_n 1, 1) := by decide +kernel
theorem dX10_fault_6 : decode cX10_fault 6 = .ok (.ifCond .ne 12, 3) := by decide +kernel
theorem dX10_fault_9 : decode cX10_fault 9 = .ok (.aload_n 0, 1) := by decide +kernel
theorem dX10_fault_10 : decode cX10_fault 10 = .ok (.getfield 17, 3) := by decide +kernel
theorem dX10_fault_13 : decode cX10_fault 13 = .ok (.iconst 0, 1) := by decide +kernel
theorem dX10_fault_14 : decode cX10_fault 14 = .ok (.iaload, 1) := by decide +kernel
theorem dX10_fault_15 : decode cX10_fault 15 = .ok (.goto 18, 3) := by decide +kernel
theorem dX10_fault_18 : decode cX10_fault 18 = .ok (.iload_n 1, 1) := by decide +kernel
theorem dX10_fault_19 : decode cX10_fault 19 = .ok (.iconst 1, 1) := by decide +kernel
theorem dX10_fault_20 : decode cX10_fault 20 = .ok (.if_icmp .ne 12, 3) := by decide +kernel
theorem dX10_fault_23 : decode cX10_fault 23 = .ok (.aload_n 0, 1) := by decide +kernel
theorem dX10_fault_24 : decode cX10_fault 24 = .ok (.getfield 20, 3) := by decide +kernel
theorem dX10_fault_27 : decode cX10_fault 27 = .ok (.iconst 0, 1) := by decide +kernel
theorem dX10_fault_28 : decode cX10_fault 28 = .ok (.iaload, 1) := by decide +kernel
theorem dX10_fault_29 : decode cX10_fault 29 = .ok (.goto 4, 3) := by decide +kernel
theorem dX10_fault_32 : decode cX10_fault 32 = .ok (.iconst (-1), 1) := by decide +kernel
theorem dX10_fault_33 : decode cX10_fault 33 = .ok (.ireturn, 1) := by decide +kernel
theorem dX10_of_0 : decode cX10_of 0 = .ok (.aload_n 0, 1) := by decide +kernel
theorem dX10_of_1 : decode cX10_of 1 = .ok (.getfield 26, 3) := by decide +kernel
theorem dX10_of_4 : decode cX10_of 4 = .ok (.sipush 138, 3) := by decide +kernel
theorem dX10_of_7 : decode cX10_of 7 = .ok (.aload_n 0, 1) := by decide +kernel
theorem dX10_of_8 : decode cX10_of 8 = .ok (.getfield 274, 3) := by decide +kernel
theorem dX10_of_11 : decode cX10_of 11 = .ok (.imul, 1) := by decide +kernel
theorem dX10_of_12 : decode cX10_of 12 = .ok (.iload_n 1, 1) := by decide +kernel
theorem dX10_of_13 : decode cX10_of 13 = .ok (.iadd, 1) := by decide +kernel
