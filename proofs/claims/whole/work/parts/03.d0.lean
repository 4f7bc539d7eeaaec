theorem dX0_init_0 : decode cX0_init 0 = .ok (.aload_n 0, 1) := by decide +kernel
theorem dX0_init_1 : decode cX0_init 1 = .ok (.invokespecial 3, 3) := by decide +kernel
theorem dX0_init_4 : decode cX0_init 4 = .ok (.aload_n 0, 1) := by decide +kernel
theorem dX0_init_5 : decode cX0_init 5 = .ok (.iconst 1, 1) := by decide +kernel
theorem dX0_init_6 : decode cX0_init 6 = .ok (.putfield 9, 3) := by decide +kernel
theorem dX0_init_9 : decode cX0_init 9 = .ok (.aload_n 0, 1) := by decide +kernel
theorem dX0_init_10 : decode cX0_init 10 = .ok (.bipush 9, 2) := by decide +kernel
theorem dX0_init_12 : decode cX0_init 12 = .ok (.newarray .int, 2) := by decide +kernel
theorem dX0_init_14 : decode cX0_init 14 = .ok (.putfield 15, 3) := by decide +kernel
theorem dX0_init_17 : decode cX0_init 17 = .ok (.aload_n 0, 1) := by decide +kernel
theorem dX0_init_18 : decode cX0_init 18 = .ok (.bipush 9, 2) := by decide +kernel
theorem dX0_init_20 : decode cX0_init 20 = .ok (.newarray .int, 2) := by decide +kernel
theorem dX0_init_22 : decode cX0_init 22 = .ok (.putfield 19, 3) := by decide +kernel
theorem dX0_init_25 : decode cX0_init 25 = .ok (.aload_n 0, 1) := by decide +kernel
theorem dX0_init_26 : decode cX0_init 26 = .ok (.bipush 9, 2) := by decide +kernel
theorem dX0_init_28 : decode cX0_init 28 = .ok (.newarray .int, 2) := by decide +kernel
theorem dX0_init_30 : decode cX0_init 30 = .ok (.putfield 22, 3) := by decide +kernel
theorem dX0_init_33 : decode cX0_init 33 = .ok (.aload_n 0, 1) := by decide +kernel
theorem dX0_init_34 : decode cX0_init 34 = .ok (.bipush 9, 2) := by decide +kernel
theorem dX0_init_36 : decode cX0_init 36 = .ok (.newarray .int, 2) := by decide +kernel
theorem dX0_init_38 : decode cX0_init 38 = .ok (.putfield 25, 3) := by decide +kernel
theorem dX0_init_41 : decode cX0_init 41 = .ok (.aload_n 0, 1) := by decide +kernel
theorem dX0_init_42 : decode cX0_init 42 = .ok (.bipush 100, 2) := by decide +kernel
theorem dX0_init_44 : decode cX0_init 44 = .ok (.newarray .int, 2) := by decide +kernel
theorem dX0_init_46 : decode cX0_init 46 = .ok (.putfield 28, 3) := by decide +kernel
theorem dX0_init_49 : decode cX0_init 49 = .ok (.return_, 1) := by decide +kernel
theorem dX0_clear_0 : decode cX0_clear 0 = .ok (.aload_n 0, 1) := by decide +kernel
theorem dX0_clear_1 : decode cX0_clear 1 = .ok (.iconst 0, 1) := by decide +kernel
theorem dX0_clear_2 : decode cX0_clear 2 = .ok (.putfield 31, 3) := by decide +kernel
theorem dX0_clear_5 : decode cX0_clear 5 = .ok (.aload_n 0, 1) := by decide +kernel
theorem dX0_clear_6 : decode cX0_clear 6 = .ok (.iconst 1, 1) := by decide +kernel
theorem dX0_clear_7 : decode cX0_clear 7 = .ok (.putfield 9, 3) := by decide +kernel
theorem dX0_clear_10 : decode cX0_clear 10 = .ok (.aload_n 0, 1) := by decide +kernel
theorem dX0_clear_11 : decode cX0_clear 11 = .ok (.getfield 25, 3) := by decide +kernel
theorem dX0_clear_14 : decode cX0_clear 14 = .ok (.iconst 0, 1) := by decide +kernel
theorem dX0_clear_15 : decode cX0_clear 15 = .ok (.invokestatic 34, 3) := by decide +kernel
theorem dX0_clear_18 : decode cX0_clear 18 = .ok (.aload_n 0, 1) := by decide +kernel
theorem dX0_clear_19 : decode cX0_clear 19 = .ok (.getfield 28, 3) := by decide +kernel
theorem dX0_clear_22 : decode cX0_clear 22 = .ok (.iconst 0, 1) := by decide +kernel
theorem dX0_clear_23 : decode cX0_clear 23 = .ok (.invokestatic 34, 3) := by decide +kernel
theorem dX0_clear_26 : decode cX0_clear 26 = .ok (.return_, 1) := by decide +kernel
theorem dX0_take_0 : decode cX0_take 0 = .ok (.aload_n 0, 1) := by decide +kernel
theorem dX0_take_1 : decode cX0_take 1 = .ok (.aload_n 1, 1) := by decide +kernel
theorem dX0_take_2 : decode cX0_take 2 = .ok (.getfield 31, 3) := by decide +kernel
theorem dX0_take_5 : decode cX0_take 5 = .ok (.putfield 31, 3) := by decide +kernel
theorem dX0_take_8 : decode cX0_take 8 = .ok (.aload_n 0, 1) := by decide +kernel
theorem dX0_take_9 : decode cX0_take 9 = .ok (.aload_n 1, 1) := by decide +kernel
theorem dX0_take_10 : decode cX0_take 10 = .ok (.getfield 9, 3) := by decide +kernel
theorem dX0_take_13 : decode cX0_take 13 = .ok (.putfield 9, 3) := by decide +kernel
theorem dX0_take_16 : decode cX0_take 16 = .ok (.aload_n 1, 1) := by decide +kernel
theorem dX0_take_17 : decode cX0_take 17 = .ok (.getfield 15, 3) := by decide +kernel
theorem dX0_take_20 : decode cX0_take 20 = .ok (.iconst 0, 1) := by decide +kernel
theorem dX0_take_21 : decode cX0_take 21 = .ok (.aload_n 0, 1) := by decide +kernel
theorem dX0_take_22 : decode cX0_take 22 = .ok (.getfield 15, 3) := by decide +kernel
theorem dX0_take_25 : decode cX0_take 25 = .ok (.iconst 0, 1) := by decide +kernel
theorem dX0_take_26 : decode cX0_take 26 = .ok (.bipush 9, 2) := by decide +kernel
theorem dX0_take_28 : decode cX0_take 28 = .ok (.invokestatic 40, 3) := by decide +kernel
theorem dX0_take_31 : decode cX0_take 31 = .ok (.aload_n 1, 1) := by decide +kernel
theorem dX0_take_32 : decode cX0_take 32 = .ok (.getfield 19, 3) := by decide +kernel
theorem dX0_take_35 : decode cX0_take 35 = .ok (.iconst 0, 1) := by decide +kernel
theorem dX0_take_36 : decode cX0_take 36 = .ok (.aload_n 0, 1) := by decide +kernel
theorem dX0_take_37 : decode cX0_take 37 = .ok (.getfield 19, 3) := by decide +kernel
theorem dX0_take_40 : decode cX0_take 40 = .ok (.iconst 0, 1) := by decide +kernel
theorem dX0_take_41 : decode cX0_take 41 = .ok (.bipush 9, 2) := by decide +kernel
theorem dX0_take_43 : decode cX0_take 43 = .ok (.invokestatic 40, 3) := by decide +kernel
theorem dX0_take_46 : decode cX0_take 46 = .ok (.aload_n 1, 1) := by decide +kernel
theorem dX0_take_47 : decode cX0_take 47 = .ok (.getfield 22, 3) := by decide +kernel
theorem dX0_take_50 : decode cX0_take 50 = .ok (.iconst 0, 1) := by decide +kernel
theorem dX0_take_51 : decode cX0_take 51 = .ok (.aload_n 0, 1) := by decide +kernel
theorem dX0_take_52 : decode cX0_take 52 = .ok (.getfield 22, 3) := by decide +kernel
theorem dX0_take_55 : decode cX0_take 55 = .ok (.iconst 0, 1) := by decide +kernel
theorem dX0_take_56 : decode cX0_take 56 = .ok (.bipush 9, 2) := by decide +kernel
theorem dX0_take_58 : decode cX0_take 58 = .ok (.invokestatic 40, 3) := by decide +kernel
theorem dX0_take_61 : decode cX0_take 61 = .ok (.aload_n 1, 1) := by decide +kernel
theorem dX0_take_62 : decode cX0_take 62 = .ok (.getfield 25, 3) := by decide +kernel
theorem dX0_take_65 : decode cX0_take 65 = .ok (.iconst 0, 1) := by decide +kernel
theorem dX0_take_66 : decode cX0_take 66 = .ok (.aload_n 0, 1) := by decide +kernel
theorem dX0_take_67 : decode cX0_take 67 = .ok (.getfield 25, 3) := by decide +kernel
theorem dX0_take_70 : decode cX0_take 70 = .ok (.iconst 0, 1) := by decide +kernel
theorem dX0_take_71 : decode cX0_take 71 = .ok (.bipush 9, 2) := by decide +kernel
theorem dX0_take_73 : decode cX0_take 73 = .ok (.invokestatic 40, 3) := by decide +kernel
theorem dX0_take_76 : decode cX0_take 76 = .ok (.aload_n 1, 1) := by decide +kernel
theorem dX0_take_77 : decode cX0_take 77 = .ok (.getfield 28, 3) := by decide +kernel
theorem dX0_take_80 : decode cX0_take 80 = .ok (.iconst 0, 1) := by decide +kernel
theorem dX0_take_81 : decode cX0_take 81 = .ok (.aload_n 0, 1) := by decide +kernel
theorem dX0_take_82 : decode cX0_take 82 = .ok (.getfield 28, 3) := by decide +kernel
theorem dX0_take_85 : decode cX0_take 85 = .ok (.iconst 0, 1) := by decide +kernel
theorem dX0_take_86 : decode cX0_take 86 = .ok (.bipush 100, 2) := by decide +kernel
theorem dX0_take_88 : decode cX0_take 88 = .ok (.invokestatic 40, 3) := by decide +kernel
theorem dX0_take_91 : decode cX0_take 91 = .ok (.return_, 1) := by decide +kernel
theorem dX0_addSeam_0 : decode cX0_addSeam 0 = .ok (.aload_n 0, 1) := by decide +kernel
theorem dX0_addSeam_1 : decode cX0_addSeam 1 = .ok (.getfield 31, 3) := by decide +kernel
theorem dX0_addSeam_4 : decode cX0_addSeam 4 = .ok (.bipush 9, 2) := by decide +kernel
theorem dX0_addSeam_6 : decode cX0_addSeam 6 = .ok (.if_icmp .ge 43, 3) := by decide +kernel
theorem dX0_addSeam_9 : decode cX0_addSeam 9 = .ok (.aload_n 0, 1) := by decide +kernel
theorem dX0_addSeam_10 : decode cX0_addSeam 10 = .ok (.getfield 15, 3) := by decide +kernel
theorem dX0_addSeam_13 : decode cX0_addSeam 13 = .ok (.aload_n 0, 1) := by decide +kernel
theorem dX0_addSeam_14 : decode cX0_addSeam 14 = .ok (.getfield 31, 3) := by decide +kernel
theorem dX0_addSeam_17 : decode cX0_addSeam 17 = .ok (.iload_n 1, 1) := by decide +kernel
theorem dX0_addSeam_18 : decode cX0_addSeam 18 = .ok (.iastore, 1) := by decide +kernel
theorem dX0_addSeam_19 : decode cX0_addSeam 19 = .ok (.aload_n 0, 1) := by decide +kernel
theorem dX0_addSeam_20 : decode cX0_addSeam 20 = .ok (.getfield 19, 3) := by decide +kernel
theorem dX0_addSeam_23 : decode cX0_addSeam 23 = .ok (.aload_n 0, 1) := by decide +kernel
theorem dX0_addSeam_24 : decode cX0_addSeam 24 = .ok (.getfield 31, 3) := by decide +kernel
theorem dX0_addSeam_27 : decode cX0_addSeam 27 = .ok (.iload_n 2, 1) := by decide +kernel
theorem dX0_addSeam_28 : decode cX0_addSeam 28 = .ok (.iastore, 1) := by decide +kernel
theorem dX0_addSeam_29 : decode cX0_addSeam 29 = .ok (.aload_n 0, 1) := by decide +kernel
theorem dX0_addSeam_30 : decode cX0_addSeam 30 = .ok (.getfield 22, 3) := by decide +kernel
theorem dX0_addSeam_33 : decode cX0_addSeam 33 = .ok (.aload_n 0, 1) := by decide +kernel
theorem dX0_addSeam_34 : decode cX0_addSeam 34 = .ok (.getfield 31, 3) := by decide +kernel
theorem dX0_addSeam_37 : decode cX0_addSeam 37 = .ok (.iload_n 3, 1) := by decide +kernel
theorem dX0_addSeam_38 : decode cX0_addSeam 38 = .ok (.iastore, 1) := by decide +kernel
theorem dX0_addSeam_39 : decode cX0_addSeam 39 = .ok (.aload_n 0, 1) := by decide +kernel
theorem dX0_addSeam_40 : decode cX0_addSeam 40 = .ok (.dup, 1) := by decide +kernel
theorem dX0_addSeam_41 : decode cX0_addSeam 41 = .ok (.getfield 31, 3) := by decide +kernel
theorem dX0_addSeam_44 : decode cX0_addSeam 44 = .ok (.iconst 1, 1) := by decide +kernel
theorem dX0_addSeam_45 : decode cX0_addSeam 45 = .ok (.iadd, 1) := by decide +kernel
theorem dX0_addSeam_46 : decode cX0_addSeam 46 = .ok (.putfield 31, 3) := by decide +kernel
theorem dX0_addSeam_49 : decode cX0_addSeam 49 = .ok (.return_, 1) := by decide +kernel
theorem dX0_hasSeam_0 : decode cX0_hasSeam 0 = .ok (.iload_n 1, 1) := by decide +kernel
theorem dX0_hasSeam_1 : decode cX0_hasSeam 1 = .ok (.ifCond .lt 15, 3) := by decide +kernel
theorem dX0_hasSeam_4 : decode cX0_hasSeam 4 = .ok (.iload_n 1, 1) := by decide +kernel
theorem dX0_hasSeam_5 : decode cX0_hasSeam 5 = .ok (.aload_n 0, 1) := by decide +kernel
theorem dX0_hasSeam_6 : decode cX0_hasSeam 6 = .ok (.getfield 31, 3) := by decide +kernel
theorem dX0_hasSeam_9 : decode cX0_hasSeam 9 = .ok (.if_icmp .ge 7, 3) := by decide +kernel
theorem dX0_hasSeam_12 : decode cX0_hasSeam 12 = .ok (.iconst 1, 1) := by decide +kernel
theorem dX0_hasSeam_13 : decode cX0_hasSeam 13 = .ok (.goto 4, 3) := by decide +kernel
theorem dX0_hasSeam_16 : decode cX0_hasSeam 16 = .ok (.iconst 0, 1) := by decide +kernel
theorem dX0_hasSeam_17 : decode cX0_hasSeam 17 = .ok (.ireturn, 1) := by decide +kernel
theorem dX0_tell_0 : decode cX0_tell 0 = .ok (.iload_n 1, 1) := by decide +kernel
theorem dX0_tell_1 : decode cX0_tell 1 = .ok (.ifCond .ne 8, 3) := by decide +kernel
theorem dX0_tell_4 : decode cX0_tell 4 = .ok (.aload_n 0, 1) := by decide +kernel
theorem dX0_tell_5 : decode cX0_tell 5 = .ok (.getfield 31, 3) := by decide +kernel
theorem dX0_tell_8 : decode cX0_tell 8 = .ok (.ireturn, 1) := by decide +kernel
theorem dX0_tell_9 : decode cX0_tell 9 = .ok (.iload_n 1, 1) := by decide +kernel
theorem dX0_tell_10 : decode cX0_tell 10 = .ok (.iconst 1, 1) := by decide +kernel
theorem dX0_tell_11 : decode cX0_tell 11 = .ok (.if_icmp .ne 8, 3) := by decide +kernel
theorem dX0_tell_14 : decode cX0_tell 14 = .ok (.aload_n 0, 1) := by decide +kernel
theorem dX0_tell_15 : decode cX0_tell 15 = .ok (.getfield 9, 3) := by decide +kernel
theorem dX0_tell_18 : decode cX0_tell 18 = .ok (.ireturn, 1) := by decide +kernel
theorem dX0_tell_19 : decode cX0_tell 19 = .ok (.iload_n 1, 1) := by decide +kernel
theorem dX0_tell_20 : decode cX0_tell 20 = .ok (.bipush 100, 2) := by decide +kernel
theorem dX0_tell_22 : decode cX0_tell 22 = .ok (.if_icmp .lt 20, 3) := by decide +kernel
theorem dX0_tell_25 : decode cX0_tell 25 = .ok (.iload_n 1, 1) := by decide +kernel
theorem dX0_tell_26 : decode cX0_tell 26 = .ok (.sipush 200, 3) := by decide +kernel
theorem dX0_tell_29 : decode cX0_tell 29 = .ok (.if_icmp .ge 13, 3) := by decide +kernel
theorem dX0_tell_32 : decode cX0_tell 32 = .ok (.aload_n 0, 1) := by decide +kernel
theorem dX0_tell_33 : decode cX0_tell 33 = .ok (.getfield 28, 3) := by decide +kernel
theorem dX0_tell_36 : decode cX0_tell 36 = .ok (.iload_n 1, 1) := by decide +kernel
theorem dX0_tell_37 : decode cX0_tell 37 = .ok (.bipush 100, 2) := by decide +kernel
theorem dX0_tell_39 : decode cX0_tell 39 = .ok (.isub, 1) := by decide +kernel
theorem dX0_tell_40 : decode cX0_tell 40 = .ok (.iaload, 1) := by decide +kernel
theorem dX0_tell_41 : decode cX0_tell 41 = .ok (.ireturn, 1) := by decide +kernel
theorem dX0_tell_42 : decode cX0_tell 42 = .ok (.iload_n 1, 1) := by decide +kernel
theorem dX0_tell_43 : decode cX0_tell 43 = .ok (.bipush 10, 2) := by decide +kernel
theorem dX0_tell_45 : decode cX0_tell 45 = .ok (.irem, 1) := by decide +kernel
theorem dX0_tell_46 : decode cX0_tell 46 = .ok (.istore_n 2, 1) := by decide +kernel
theorem dX0_tell_47 : decode cX0_tell 47 = .ok (.iload_n 1, 1) := by decide +kernel
theorem dX0_tell_48 : decode cX0_tell 48 = .ok (.bipush 10, 2) := by decide +kernel
theorem dX0_tell_50 : decode cX0_tell 50 = .ok (.if_icmp .lt 11, 3) := by decide +kernel
theorem dX0_tell_53 : decode cX0_tell 53 = .ok (.aload_n 0, 1) := by decide +kernel
theorem dX0_tell_54 : decode cX0_tell 54 = .ok (.iload_n 2, 1) := by decide +kernel
theorem dX0_tell_55 : decode cX0_tell 55 = .ok (.invokevirtual 46, 3) := by decide +kernel
theorem dX0_tell_58 : decode cX0_tell 58 = .ok (.ifCond .ne 5, 3) := by decide +kernel
theorem dX0_tell_61 : decode cX0_tell 61 = .ok (.iconst (-1), 1) := by decide +kernel
theorem dX0_tell_62 : decode cX0_tell 62 = .ok (.ireturn, 1) := by decide +kernel
theorem dX0_tell_63 : decode cX0_tell 63 = .ok (.iload_n 1, 1) := by decide +kernel
theorem dX0_tell_64 : decode cX0_tell 64 = .ok (.bipush 10, 2) := by decide +kernel
theorem dX0_tell_66 : decode cX0_tell 66 = .ok (.idiv, 1) := by decide +kernel
theorem dX0_tell_67 : decode cX0_tell 67 = .ok (.tableswitch 57 1 4 #[29, 36, 43, 50], 29) := by decide +kernel
theorem dX0_tell_96 : decode cX0_tell 96 = .ok (.aload_n 0, 1) := by decide +kernel
theorem dX0_tell_97 : decode cX0_tell 97 = .ok (.getfield 15, 3) := by decide +kernel
theorem dX0_tell_100 : decode cX0_tell 100 = .ok (.iload_n 2, 1) := by decide +kernel
theorem dX0_tell_101 : decode cX0_tell 101 = .ok (.iaload, 1) := by decide +kernel
theorem dX0_tell_102 : decode cX0_tell 102 = .ok (.ireturn, 1) := by decide +kernel
theorem dX0_tell_103 : decode cX0_tell 103 = .ok (.aload_n 0, 1) := by decide +kernel
theorem dX0_tell_104 : decode cX0_tell 104 = .ok (.getfield 19, 3) := by decide +kernel
theorem dX0_tell_107 : decode cX0_tell 107 = .ok (.iload_n 2, 1) := by decide +kernel
theorem dX0_tell_108 : decode cX0_tell 108 = .ok (.iaload, 1) := by decide +kernel
theorem dX0_tell_109 : decode cX0_tell 109 = .ok (.ireturn, 1) := by decide +kernel
theorem dX0_tell_110 : decode cX0_tell 110 = .ok (.aload_n 0, 1) := by decide +kernel
theorem dX0_tell_111 : decode cX0_tell 111 = .ok (.getfield 22, 3) := by decide +kernel
theorem dX0_tell_114 : decode cX0_tell 114 = .ok (.iload_n 2, 1) := by decide +kernel
theorem dX0_tell_115 : decode cX0_tell 115 = .ok (.iaload, 1) := by decide +kernel
theorem dX0_tell_116 : decode cX0_tell 116 = .ok (.ireturn, 1) := by decide +kernel
theorem dX0_tell_117 : decode cX0_tell 117 = .ok (.aload_n 0, 1) := by decide +kernel
theorem dX0_tell_118 : decode cX0_tell 118 = .ok (.getfield 25, 3) := by decide +kernel
theorem dX0_tell_121 : decode cX0_tell 121 = .ok (.iload_n 2, 1) := by decide +kernel
theorem dX0_tell_122 : decode cX0_tell 122 = .ok (.iaload, 1) := by decide +kernel
theorem dX0_tell_123 : decode cX0_tell 123 = .ok (.ireturn, 1) := by decide +kernel
theorem dX0_tell_124 : decode cX0_tell 124 = .ok (.iconst (-1), 1) := by decide +kernel
theorem dX0_tell_125 : decode cX0_tell 125 = .ok (.ireturn, 1) := by decide +kernel
theorem dX0_stitchesOf_0 : decode cX0_stitchesOf 0 = .ok (.iconst 0, 1) := by decide +kernel
theorem dX0_stitchesOf_1 : decode cX0_stitchesOf 1 = .ok (.istore_n 2, 1) := by decide +kernel
theorem dX0_stitchesOf_2 : decode cX0_stitchesOf 2 = .ok (.iconst 0, 1) := by decide +kernel
theorem dX0_stitchesOf_3 : decode cX0_stitchesOf 3 = .ok (.istore_n 3, 1) := by decide +kernel
theorem dX0_stitchesOf_4 : decode cX0_stitchesOf 4 = .ok (.iload_n 3, 1) := by decide +kernel
theorem dX0_stitchesOf_5 : decode cX0_stitchesOf 5 = .ok (.aload_n 0, 1) := by decide +kernel
theorem dX0_stitchesOf_6 : decode cX0_stitchesOf 6 = .ok (.getfield 31, 3) := by decide +kernel
theorem dX0_stitchesOf_9 : decode cX0_stitchesOf 9 = .ok (.if_icmp .ge 27, 3) := by decide +kernel
theorem dX0_stitchesOf_12 : decode cX0_stitchesOf 12 = .ok (.iload_n 1, 1) := by decide +kernel
theorem dX0_stitchesOf_13 : decode cX0_stitchesOf 13 = .ok (.iload_n 3, 1) := by decide +kernel
theorem dX0_stitchesOf_14 : decode cX0_stitchesOf 14 = .ok (.ishr, 1) := by decide +kernel
theorem dX0_stitchesOf_15 : decode cX0_stitchesOf 15 = .ok (.iconst 1, 1) := by decide +kernel
theorem dX0_stitchesOf_16 : decode cX0_stitchesOf 16 = .ok (.iand, 1) := by decide +kernel
theorem dX0_stitchesOf_17 : decode cX0_stitchesOf 17 = .ok (.iconst 1, 1) := by decide +kernel
theorem dX0_stitchesOf_18 : decode cX0_stitchesOf 18 = .ok (.if_icmp .ne 12, 3) := by decide +kernel
theorem dX0_stitchesOf_21 : decode cX0_stitchesOf 21 = .ok (.iload_n 2, 1) := by decide +kernel
theorem dX0_stitchesOf_22 : decode cX0_stitchesOf 22 = .ok (.aload_n 0, 1) := by decide +kernel
theorem dX0_stitchesOf_23 : decode cX0_stitchesOf 23 = .ok (.getfield 15, 3) := by decide +kernel
theorem dX0_stitchesOf_26 : decode cX0_stitchesOf 26 = .ok (.iload_n 3, 1) := by decide +kernel
theorem dX0_stitchesOf_27 : decode cX0_stitchesOf 27 = .ok (.iaload, 1) := by decide +kernel
theorem dX0_stitchesOf_28 : decode cX0_stitchesOf 28 = .ok (.iadd, 1) := by decide +kernel
theorem dX0_stitchesOf_29 : decode cX0_stitchesOf 29 = .ok (.istore_n 2, 1) := by decide +kernel
theorem dX0_stitchesOf_30 : decode cX0_stitchesOf 30 = .ok (.iinc 3 1, 3) := by decide +kernel
theorem dX0_stitchesOf_33 : decode cX0_stitchesOf 33 = .ok (.goto (-29), 3) := by decide +kernel
theorem dX0_stitchesOf_36 : decode cX0_stitchesOf 36 = .ok (.iload_n 2, 1) := by decide +kernel
theorem dX0_stitchesOf_37 : decode cX0_stitchesOf 37 = .ok (.ireturn, 1) := by decide +kernel
theorem dX0_seamsOf_0 : decode cX0_seamsOf 0 = .ok (.iconst 0, 1) := by decide +kernel
theorem dX0_seamsOf_1 : decode cX0_seamsOf 1 = .ok (.istore_n 2, 1) := by decide +kernel
theorem dX0_seamsOf_2 : decode cX0_seamsOf 2 = .ok (.iconst 0, 1) := by decide +kernel
theorem dX0_seamsOf_3 : decode cX0_seamsOf 3 = .ok (.istore_n 3, 1) := by decide +kernel
theorem dX0_seamsOf_4 : decode cX0_seamsOf 4 = .ok (.iload_n 3, 1) := by decide +kernel
theorem dX0_seamsOf_5 : decode cX0_seamsOf 5 = .ok (.aload_n 0, 1) := by decide +kernel
theorem dX0_seamsOf_6 : decode cX0_seamsOf 6 = .ok (.getfield 31, 3) := by decide +kernel
theorem dX0_seamsOf_9 : decode cX0_seamsOf 9 = .ok (.if_icmp .ge 25, 3) := by decide +kernel
theorem dX0_seamsOf_12 : decode cX0_seamsOf 12 = .ok (.aload_n 0, 1) := by decide +kernel
theorem dX0_seamsOf_13 : decode cX0_seamsOf 13 = .ok (.getfield 19, 3) := by decide +kernel
theorem dX0_seamsOf_16 : decode cX0_seamsOf 16 = .ok (.iload_n 3, 1) := by decide +kernel
theorem dX0_seamsOf_17 : decode cX0_seamsOf 17 = .ok (.iaload, 1) := by decide +kernel
theorem dX0_seamsOf_18 : decode cX0_seamsOf 18 = .ok (.iload_n 1, 1) := by decide +kernel
theorem dX0_seamsOf_19 : decode cX0_seamsOf 19 = .ok (.if_icmp .ne 9, 3) := by decide +kernel
theorem dX0_seamsOf_22 : decode cX0_seamsOf 22 = .ok (.iload_n 2, 1) := by decide +kernel
theorem dX0_seamsOf_23 : decode cX0_seamsOf 23 = .ok (.iconst 1, 1) := by decide +kernel
theorem dX0_seamsOf_24 : decode cX0_seamsOf 24 = .ok (.iload_n 3, 1) := by decide +kernel
theorem dX0_seamsOf_25 : decode cX0_seamsOf 25 = .ok (.ishl, 1) := by decide +kernel
theorem dX0_seamsOf_26 : decode cX0_seamsOf 26 = .ok (.ior, 1) := by decide +kernel
theorem dX0_seamsOf_27 : decode cX0_seamsOf 27 = .ok (.istore_n 2, 1) := by decide +kernel
theorem dX0_seamsOf_28 : decode cX0_seamsOf 28 = .ok (.iinc 3 1, 3) := by decide +kernel
theorem dX0_seamsOf_31 : decode cX0_seamsOf 31 = .ok (.goto (-27), 3) := by decide +kernel
theorem dX0_seamsOf_34 : decode cX0_seamsOf 34 = .ok (.iload_n 2, 1) := by decide +kernel
theorem dX0_seamsOf_35 : decode cX0_seamsOf 35 = .ok (.ireturn, 1) := by decide +kernel
theorem dX0_longestSeam_0 : decode cX0_longestSeam 0 = .ok (.iconst 0, 1) := by decide +kernel
theorem dX0_longestSeam_1 : decode cX0_longestSeam 1 = .ok (.istore_n 1, 1) := by decide +kernel
theorem dX0_longestSeam_2 : decode cX0_longestSeam 2 = .ok (.iconst 0, 1) := by decide +kernel
theorem dX0_longestSeam_3 : decode cX0_longestSeam 3 = .ok (.istore_n 2, 1) := by decide +kernel
theorem dX0_longestSeam_4 : decode cX0_longestSeam 4 = .ok (.iload_n 2, 1) := by decide +kernel
theorem dX0_longestSeam_5 : decode cX0_longestSeam 5 = .ok (.aload_n 0, 1) := by decide +kernel
theorem dX0_longestSeam_6 : decode cX0_longestSeam 6 = .ok (.getfield 31, 3) := by decide +kernel
theorem dX0_longestSeam_9 : decode cX0_longestSeam 9 = .ok (.if_icmp .ge 20, 3) := by decide +kernel
theorem dX0_longestSeam_12 : decode cX0_longestSeam 12 = .ok (.iload_n 1, 1) := by decide +kernel
theorem dX0_longestSeam_13 : decode cX0_longestSeam 13 = .ok (.aload_n 0, 1) := by decide +kernel
theorem dX0_longestSeam_14 : decode cX0_longestSeam 14 = .ok (.getfield 15, 3) := by decide +kernel
theorem dX0_longestSeam_17 : decode cX0_longestSeam 17 = .ok (.iload_n 2, 1) := by decide +kernel
theorem dX0_longestSeam_18 : decode cX0_longestSeam 18 = .ok (.iaload, 1) := by decide +kernel
theorem dX0_longestSeam_19 : decode cX0_longestSeam 19 = .ok (.invokestatic 50, 3) := by decide +kernel
theorem dX0_longestSeam_22 : decode cX0_longestSeam 22 = .ok (.istore_n 1, 1) := by decide +kernel
theorem dX0_longestSeam_23 : decode cX0_longestSeam 23 = .ok (.iinc 2 1, 3) := by decide +kernel
theorem dX0_longestSeam_26 : decode cX0_longestSeam 26 = .ok (.goto (-22), 3) := by decide +kernel
theorem dX0_longestSeam_29 : decode cX0_longestSeam 29 = .ok (.iload_n 1, 1) := by decide +kernel
theorem dX0_longestSeam_30 : decode cX0_longestSeam 30 = .ok (.ireturn, 1) := by decide +kernel
theorem dX0_needs_0 : decode cX0_needs 0 = .ok (.aload_n 0, 1) := by decide +kernel
theorem dX0_needs_1 : decode cX0_needs 1 = .ok (.iload_n 1, 1) := by decide +kernel
theorem dX0_needs_2 : decode cX0_needs 2 = .ok (.invokevirtual 46, 3) := by decide +kernel
theorem dX0_needs_5 : decode cX0_needs 5 = .ok (.ifCond .eq 12, 3) := by decide +kernel
theorem dX0_needs_8 : decode cX0_needs 8 = .ok (.aload_n 0, 1) := by decide +kernel
theorem dX0_needs_9 : decode cX0_needs 9 = .ok (.getfield 25, 3) := by decide +kernel
theorem dX0_needs_12 : decode cX0_needs 12 = .ok (.iload_n 1, 1) := by decide +kernel
theorem dX0_needs_13 : decode cX0_needs 13 = .ok (.iaload, 1) := by decide +kernel
theorem dX0_needs_14 : decode cX0_needs 14 = .ok (.goto 4, 3) := by decide +kernel
theorem dX0_needs_17 : decode cX0_needs 17 = .ok (.iconst 0, 1) := by decide +kernel
theorem dX0_needs_18 : decode cX0_needs 18 = .ok (.istore_n 2, 1) := by decide +kernel
theorem dX0_needs_19 : decode cX0_needs 19 = .ok (.iconst 0, 1) := by decide +kernel
theorem dX0_needs_20 : decode cX0_needs 20 = .ok (.istore_n 3, 1) := by decide +kernel
theorem dX0_needs_21 : decode cX0_needs 21 = .ok (.iload_n 3, 1) := by decide +kernel
theorem dX0_needs_22 : decode cX0_needs 22 = .ok (.aload_n 0, 1) := by decide +kernel
theorem dX0_needs_23 : decode cX0_needs 23 = .ok (.getfield 31, 3) := by decide +kernel
theorem dX0_needs_26 : decode cX0_needs 26 = .ok (.if_icmp .ge 47, 3) := by decide +kernel
theorem dX0_needs_29 : decode cX0_needs 29 = .ok (.iconst 0, 1) := by decide +kernel
theorem dX0_needs_30 : decode cX0_needs 30 = .ok (.istore 4, 2) := by decide +kernel
theorem dX0_needs_32 : decode cX0_needs 32 = .ok (.iload 4, 2) := by decide +kernel
theorem dX0_needs_34 : decode cX0_needs 34 = .ok (.aload_n 0, 1) := by decide +kernel
theorem dX0_needs_35 : decode cX0_needs 35 = .ok (.getfield 31, 3) := by decide +kernel
theorem dX0_needs_38 : decode cX0_needs 38 = .ok (.if_icmp .ge 29, 3) := by decide +kernel
theorem dX0_needs_41 : decode cX0_needs 41 = .ok (.iload_n 2, 1) := by decide +kernel
theorem dX0_needs_42 : decode cX0_needs 42 = .ok (.iload 4, 2) := by decide +kernel
theorem dX0_needs_44 : decode cX0_needs 44 = .ok (.ishr, 1) := by decide +kernel
theorem dX0_needs_45 : decode cX0_needs 45 = .ok (.iconst 1, 1) := by decide +kernel
theorem dX0_needs_46 : decode cX0_needs 46 = .ok (.iand, 1) := by decide +kernel
theorem dX0_needs_47 : decode cX0_needs 47 = .ok (.iconst 1, 1) := by decide +kernel
theorem dX0_needs_48 : decode cX0_needs 48 = .ok (.if_icmp .ne 13, 3) := by decide +kernel
theorem dX0_needs_51 : decode cX0_needs 51 = .ok (.iload_n 2, 1) := by decide +kernel
theorem dX0_needs_52 : decode cX0_needs 52 = .ok (.aload_n 0, 1) := by decide +kernel
theorem dX0_needs_53 : decode cX0_needs 53 = .ok (.getfield 25, 3) := by decide +kernel
theorem dX0_needs_56 : decode cX0_needs 56 = .ok (.iload 4, 2) := by decide +kernel
theorem dX0_needs_58 : decode cX0_needs 58 = .ok (.iaload, 1) := by decide +kernel
theorem dX0_needs_59 : decode cX0_needs 59 = .ok (.ior, 1) := by decide +kernel
theorem dX0_needs_60 : decode cX0_needs 60 = .ok (.istore_n 2, 1) := by decide +kernel
theorem dX0_needs_61 : decode cX0_needs 61 = .ok (.iinc 4 1, 3) := by decide +kernel
theorem dX0_needs_64 : decode cX0_needs 64 = .ok (.goto (-32), 3) := by decide +kernel
theorem dX0_needs_67 : decode cX0_needs 67 = .ok (.iinc 3 1, 3) := by decide +kernel
theorem dX0_needs_70 : decode cX0_needs 70 = .ok (.goto (-49), 3) := by decide +kernel
theorem dX0_needs_73 : decode cX0_needs 73 = .ok (.iload_n 2, 1) := by decide +kernel
theorem dX0_needs_74 : decode cX0_needs 74 = .ok (.ireturn, 1) := by decide +kernel
theorem dX0_leans_0 : decode cX0_leans 0 = .ok (.iconst 0, 1) := by decide +kernel
theorem dX0_leans_1 : decode cX0_leans 1 = .ok (.istore_n 2, 1) := by decide +kernel
theorem dX0_leans_2 : decode cX0_leans 2 = .ok (.iconst 0, 1) := by decide +kernel
theorem dX0_leans_3 : decode cX0_leans 3 = .ok (.istore_n 3, 1) := by decide +kernel
theorem dX0_leans_4 : decode cX0_leans 4 = .ok (.iload_n 3, 1) := by decide +kernel
theorem dX0_leans_5 : decode cX0_leans 5 = .ok (.aload_n 0, 1) := by decide +kernel
theorem dX0_leans_6 : decode cX0_leans 6 = .ok (.getfield 31, 3) := by decide +kernel
theorem dX0_leans_9 : decode cX0_leans 9 = .ok (.if_icmp .ge 36, 3) := by decide +kernel
theorem dX0_leans_12 : decode cX0_leans 12 = .ok (.aload_n 0, 1) := by decide +kernel
theorem dX0_leans_13 : decode cX0_leans 13 = .ok (.iload_n 1, 1) := by decide +kernel
theorem dX0_leans_14 : decode cX0_leans 14 = .ok (.invokevirtual 46, 3) := by decide +kernel
theorem dX0_leans_17 : decode cX0_leans 17 = .ok (.ifCond .eq 22, 3) := by decide +kernel
theorem dX0_leans_20 : decode cX0_leans 20 = .ok (.aload_n 0, 1) := by decide +kernel
theorem dX0_leans_21 : decode cX0_leans 21 = .ok (.iload_n 3, 1) := by decide +kernel
theorem dX0_leans_22 : decode cX0_leans 22 = .ok (.invokevirtual 56, 3) := by decide +kernel
theorem dX0_leans_25 : decode cX0_leans 25 = .ok (.iload_n 1, 1) := by decide +kernel
theorem dX0_leans_26 : decode cX0_leans 26 = .ok (.ishr, 1) := by decide +kernel
theorem dX0_leans_27 : decode cX0_leans 27 = .ok (.iconst 1, 1) := by decide +kernel
theorem dX0_leans_28 : decode cX0_leans 28 = .ok (.iand, 1) := by decide +kernel
theorem dX0_leans_29 : decode cX0_leans 29 = .ok (.iconst 1, 1) := by decide +kernel
theorem dX0_leans_30 : decode cX0_leans 30 = .ok (.if_icmp .ne 9, 3) := by decide +kernel
theorem dX0_leans_33 : decode cX0_leans 33 = .ok (.iload_n 2, 1) := by decide +kernel
theorem dX0_leans_34 : decode cX0_leans 34 = .ok (.iconst 1, 1) := by decide +kernel
theorem dX0_leans_35 : decode cX0_leans 35 = .ok (.iload_n 3, 1) := by decide +kernel
theorem dX0_leans_36 : decode cX0_leans 36 = .ok (.ishl, 1) := by decide +kernel
theorem dX0_leans_37 : decode cX0_leans 37 = .ok (.ior, 1) := by decide +kernel
theorem dX0_leans_38 : decode cX0_leans 38 = .ok (.istore_n 2, 1) := by decide +kernel
theorem dX0_leans_39 : decode cX0_leans 39 = .ok (.iinc 3 1, 3) := by decide +kernel
theorem dX0_leans_42 : decode cX0_leans 42 = .ok (.goto (-38), 3) := by decide +kernel
theorem dX0_leans_45 : decode cX0_leans 45 = .ok (.iload_n 2, 1) := by decide +kernel
theorem dX0_leans_46 : decode cX0_leans 46 = .ok (.ireturn, 1) := by decide +kernel
theorem dX0_cut_0 : decode cX0_cut 0 = .ok (.iconst 0, 1) := by decide +kernel
theorem dX0_cut_1 : decode cX0_cut 1 = .ok (.istore_n 2, 1) := by decide +kernel
theorem dX0_cut_2 : decode cX0_cut 2 = .ok (.iconst 0, 1) := by decide +kernel
theorem dX0_cut_3 : decode cX0_cut 3 = .ok (.istore_n 3, 1) := by decide +kernel
theorem dX0_cut_4 : decode cX0_cut 4 = .ok (.iload_n 3, 1) := by decide +kernel
theorem dX0_cut_5 : decode cX0_cut 5 = .ok (.aload_n 0, 1) := by decide +kernel
theorem dX0_cut_6 : decode cX0_cut 6 = .ok (.getfield 31, 3) := by decide +kernel
theorem dX0_cut_9 : decode cX0_cut 9 = .ok (.if_icmp .ge 88, 3) := by decide +kernel
theorem dX0_cut_12 : decode cX0_cut 12 = .ok (.iload_n 3, 1) := by decide +kernel
theorem dX0_cut_13 : decode cX0_cut 13 = .ok (.iconst 1, 1) := by decide +kernel
theorem dX0_cut_14 : decode cX0_cut 14 = .ok (.iadd, 1) := by decide +kernel
theorem dX0_cut_15 : decode cX0_cut 15 = .ok (.istore 4, 2) := by decide +kernel
theorem dX0_cut_17 : decode cX0_cut 17 = .ok (.iload 4, 2) := by decide +kernel
theorem dX0_cut_19 : decode cX0_cut 19 = .ok (.aload_n 0, 1) := by decide +kernel
theorem dX0_cut_20 : decode cX0_cut 20 = .ok (.getfield 31, 3) := by decide +kernel
theorem dX0_cut_23 : decode cX0_cut 23 = .ok (.if_icmp .ge 68, 3) := by decide +kernel
theorem dX0_cut_26 : decode cX0_cut 26 = .ok (.aload_n 0, 1) := by decide +kernel
theorem dX0_cut_27 : decode cX0_cut 27 = .ok (.getfield 25, 3) := by decide +kernel
theorem dX0_cut_30 : decode cX0_cut 30 = .ok (.iload_n 3, 1) := by decide +kernel
theorem dX0_cut_31 : decode cX0_cut 31 = .ok (.iaload, 1) := by decide +kernel
theorem dX0_cut_32 : decode cX0_cut 32 = .ok (.iload 4, 2) := by decide +kernel
theorem dX0_cut_34 : decode cX0_cut 34 = .ok (.ishr, 1) := by decide +kernel
theorem dX0_cut_35 : decode cX0_cut 35 = .ok (.iconst 1, 1) := by decide +kernel
theorem dX0_cut_36 : decode cX0_cut 36 = .ok (.iand, 1) := by decide +kernel
theorem dX0_cut_37 : decode cX0_cut 37 = .ok (.iconst 1, 1) := by decide +kernel
theorem dX0_cut_38 : decode cX0_cut 38 = .ok (.if_icmp .eq 18, 3) := by decide +kernel
theorem dX0_cut_41 : decode cX0_cut 41 = .ok (.aload_n 0, 1) := by decide +kernel
theorem dX0_cut_42 : decode cX0_cut 42 = .ok (.getfield 25, 3) := by decide +kernel
theorem dX0_cut_45 : decode cX0_cut 45 = .ok (.iload 4, 2) := by decide +kernel
theorem dX0_cut_47 : decode cX0_cut 47 = .ok (.iaload, 1) := by decide +kernel
theorem dX0_cut_48 : decode cX0_cut 48 = .ok (.iload_n 3, 1) := by decide +kernel
theorem dX0_cut_49 : decode cX0_cut 49 = .ok (.ishr, 1) := by decide +kernel
theorem dX0_cut_50 : decode cX0_cut 50 = .ok (.iconst 1, 1) := by decide +kernel
theorem dX0_cut_51 : decode cX0_cut 51 = .ok (.iand, 1) := by decide +kernel
theorem dX0_cut_52 : decode cX0_cut 52 = .ok (.iconst 1, 1) := by decide +kernel
theorem dX0_cut_53 : decode cX0_cut 53 = .ok (.if_icmp .ne 7, 3) := by decide +kernel
theorem dX0_cut_56 : decode cX0_cut 56 = .ok (.iconst 1, 1) := by decide +kernel
theorem dX0_cut_57 : decode cX0_cut 57 = .ok (.goto 4, 3) := by decide +kernel
theorem dX0_cut_60 : decode cX0_cut 60 = .ok (.iconst 0, 1) := by decide +kernel
theorem dX0_cut_61 : decode cX0_cut 61 = .ok (.istore 5, 2) := by decide +kernel
theorem dX0_cut_63 : decode cX0_cut 63 = .ok (.iload 5, 2) := by decide +kernel
theorem dX0_cut_65 : decode cX0_cut 65 = .ok (.ifCond .eq 20, 3) := by decide +kernel
theorem dX0_cut_68 : decode cX0_cut 68 = .ok (.iload_n 1, 1) := by decide +kernel
theorem dX0_cut_69 : decode cX0_cut 69 = .ok (.iload_n 3, 1) := by decide +kernel
theorem dX0_cut_70 : decode cX0_cut 70 = .ok (.ishr, 1) := by decide +kernel
theorem dX0_cut_71 : decode cX0_cut 71 = .ok (.iconst 1, 1) := by decide +kernel
theorem dX0_cut_72 : decode cX0_cut 72 = .ok (.iand, 1) := by decide +kernel
theorem dX0_cut_73 : decode cX0_cut 73 = .ok (.iload_n 1, 1) := by decide +kernel
theorem dX0_cut_74 : decode cX0_cut 74 = .ok (.iload 4, 2) := by decide +kernel
theorem dX0_cut_76 : decode cX0_cut 76 = .ok (.ishr, 1) := by decide +kernel
theorem dX0_cut_77 : decode cX0_cut 77 = .ok (.iconst 1, 1) := by decide +kernel
theorem dX0_cut_78 : decode cX0_cut 78 = .ok (.iand, 1) := by decide +kernel
theorem dX0_cut_79 : decode cX0_cut 79 = .ok (.if_icmp .eq 6, 3) := by decide +kernel
theorem dX0_cut_82 : decode cX0_cut 82 = .ok (.iinc 2 1, 3) := by decide +kernel
theorem dX0_cut_85 : decode cX0_cut 85 = .ok (.iinc 4 1, 3) := by decide +kernel
theorem dX0_cut_88 : decode cX0_cut 88 = .ok (.goto (-71), 3) := by decide +kernel
theorem dX0_cut_91 : decode cX0_cut 91 = .ok (.iinc 3 1, 3) := by decide +kernel
theorem dX0_cut_94 : decode cX0_cut 94 = .ok (.goto (-90), 3) := by decide +kernel
theorem dX0_cut_97 : decode cX0_cut 97 = .ok (.iload_n 2, 1) := by decide +kernel
theorem dX0_cut_98 : decode cX0_cut 98 = .ok (.ireturn, 1) := by decide +kernel
theorem dX1_init_0 : decode cX1_init 0 = .ok (.aload_n 0, 1) := by decide +kernel
theorem dX1_init_1 : decode cX1_init 1 = .ok (.invokespecial 3, 3) := by decide +kernel
theorem dX1_init_4 : decode cX1_init 4 = .ok (.aload_n 0, 1) := by decide +kernel
theorem dX1_init_5 : decode cX1_init 5 = .ok (.bipush 40, 2) := by decide +kernel
theorem dX1_init_7 : decode cX1_init 7 = .ok (.newarray .int, 2) := by decide +kernel
theorem dX1_init_9 : decode cX1_init 9 = .ok (.putfield 9, 3) := by decide +kernel
theorem dX1_init_12 : decode cX1_init 12 = .ok (.aload_n 0, 1) := by decide +kernel
theorem dX1_init_13 : decode cX1_init 13 = .ok (.bipush 40, 2) := by decide +kernel
theorem dX1_init_15 : decode cX1_init 15 = .ok (.newarray .int, 2) := by decide +kernel
theorem dX1_init_17 : decode cX1_init 17 = .ok (.putfield 15, 3) := by decide +kernel
theorem dX1_init_20 : decode cX1_init 20 = .ok (.return_, 1) := by decide +kernel
theorem dX1_take_0 : decode cX1_take 0 = .ok (.aload_n 0, 1) := by decide +kernel
theorem dX1_take_1 : decode cX1_take 1 = .ok (.aload_n 1, 1) := by decide +kernel
theorem dX1_take_2 : decode cX1_take 2 = .ok (.getfield 18, 3) := by decide +kernel
theorem dX1_take_5 : decode cX1_take 5 = .ok (.putfield 18, 3) := by decide +kernel
theorem dX1_take_8 : decode cX1_take 8 = .ok (.aload_n 1, 1) := by decide +kernel
theorem dX1_take_9 : decode cX1_take 9 = .ok (.getfield 9, 3) := by decide +kernel
theorem dX1_take_12 : decode cX1_take 12 = .ok (.iconst 0, 1) := by decide +kernel
theorem dX1_take_13 : decode cX1_take 13 = .ok (.aload_n 0, 1) := by decide +kernel
theorem dX1_take_14 : decode cX1_take 14 = .ok (.getfield 9, 3) := by decide +kernel
theorem dX1_take_17 : decode cX1_take 17 = .ok (.iconst 0, 1) := by decide +kernel
theorem dX1_take_18 : decode cX1_take 18 = .ok (.bipush 40, 2) := by decide +kernel
theorem dX1_take_20 : decode cX1_take 20 = .ok (.invokestatic 22, 3) := by decide +kernel
theorem dX1_take_23 : decode cX1_take 23 = .ok (.aload_n 1, 1) := by decide +kernel
theorem dX1_take_24 : decode cX1_take 24 = .ok (.getfield 15, 3) := by decide +kernel
theorem dX1_take_27 : decode cX1_take 27 = .ok (.iconst 0, 1) := by decide +kernel
theorem dX1_take_28 : decode cX1_take 28 = .ok (.aload_n 0, 1) := by decide +kernel
theorem dX1_take_29 : decode cX1_take 29 = .ok (.getfield 15, 3) := by decide +kernel
theorem dX1_take_32 : decode cX1_take 32 = .ok (.iconst 0, 1) := by decide +kernel
theorem dX1_take_33 : decode cX1_take 33 = .ok (.bipush 40, 2) := by decide +kernel
theorem dX1_take_35 : decode cX1_take 35 = .ok (.invokestatic 22, 3) := by decide +kernel
theorem dX1_take_38 : decode cX1_take 38 = .ok (.return_, 1) := by decide +kernel
theorem dX1_addDeed_0 : decode cX1_addDeed 0 = .ok (.aload_n 0, 1) := by decide +kernel
theorem dX1_addDeed_1 : decode cX1_addDeed 1 = .ok (.getfield 18, 3) := by decide +kernel
theorem dX1_addDeed_4 : decode cX1_addDeed 4 = .ok (.bipush 40, 2) := by decide +kernel
theorem dX1_addDeed_6 : decode cX1_addDeed 6 = .ok (.if_icmp .ge 33, 3) := by decide +kernel
theorem dX1_addDeed_9 : decode cX1_addDeed 9 = .ok (.aload_n 0, 1) := by decide +kernel
theorem dX1_addDeed_10 : decode cX1_addDeed 10 = .ok (.getfield 9, 3) := by decide +kernel
theorem dX1_addDeed_13 : decode cX1_addDeed 13 = .ok (.aload_n 0, 1) := by decide +kernel
theorem dX1_addDeed_14 : decode cX1_addDeed 14 = .ok (.getfield 18, 3) := by decide +kernel
theorem dX1_addDeed_17 : decode cX1_addDeed 17 = .ok (.iload_n 1, 1) := by decide +kernel
theorem dX1_addDeed_18 : decode cX1_addDeed 18 = .ok (.iastore, 1) := by decide +kernel
theorem dX1_addDeed_19 : decode cX1_addDeed 19 = .ok (.aload_n 0, 1) := by decide +kernel
theorem dX1_addDeed_20 : decode cX1_addDeed 20 = .ok (.getfield 15, 3) := by decide +kernel
theorem dX1_addDeed_23 : decode cX1_addDeed 23 = .ok (.aload_n 0, 1) := by decide +kernel
theorem dX1_addDeed_24 : decode cX1_addDeed 24 = .ok (.getfield 18, 3) := by decide +kernel
theorem dX1_addDeed_27 : decode cX1_addDeed 27 = .ok (.iload_n 2, 1) := by decide +kernel
theorem dX1_addDeed_28 : decode cX1_addDeed 28 = .ok (.iastore, 1) := by decide +kernel
theorem dX1_addDeed_29 : decode cX1_addDeed 29 = .ok (.aload_n 0, 1) := by decide +kernel
theorem dX1_addDeed_30 : decode cX1_addDeed 30 = .ok (.dup, 1) := by decide +kernel
theorem dX1_addDeed_31 : decode cX1_addDeed 31 = .ok (.getfield 18, 3) := by decide +kernel
theorem dX1_addDeed_34 : decode cX1_addDeed 34 = .ok (.iconst 1, 1) := by decide +kernel
theorem dX1_addDeed_35 : decode cX1_addDeed 35 = .ok (.iadd, 1) := by decide +kernel
theorem dX1_addDeed_36 : decode cX1_addDeed 36 = .ok (.putfield 18, 3) := by decide +kernel
theorem dX1_addDeed_39 : decode cX1_addDeed 39 = .ok (.return_, 1) := by decide +kernel
theorem dX1_tell_0 : decode cX1_tell 0 = .ok (.iload_n 1, 1) := by decide +kernel
theorem dX1_tell_1 : decode cX1_tell 1 = .ok (.iconst (-1), 1) := by decide +kernel
theorem dX1_tell_2 : decode cX1_tell 2 = .ok (.if_icmp .ne 12, 3) := by decide +kernel
theorem dX1_tell_5 : decode cX1_tell 5 = .ok (.iload_n 2, 1) := by decide +kernel
theorem dX1_tell_6 : decode cX1_tell 6 = .ok (.ifCond .ne 8, 3) := by decide +kernel
theorem dX1_tell_9 : decode cX1_tell 9 = .ok (.aload_n 0, 1) := by decide +kernel
theorem dX1_tell_10 : decode cX1_tell 10 = .ok (.getfield 18, 3) := by decide +kernel
theorem dX1_tell_13 : decode cX1_tell 13 = .ok (.ireturn, 1) := by decide +kernel
theorem dX1_tell_14 : decode cX1_tell 14 = .ok (.iload_n 1, 1) := by decide +kernel
theorem dX1_tell_15 : decode cX1_tell 15 = .ok (.ifCond .lt 11, 3) := by decide +kernel
theorem dX1_tell_18 : decode cX1_tell 18 = .ok (.iload_n 1, 1) := by decide +kernel
theorem dX1_tell_19 : decode cX1_tell 19 = .ok (.aload_n 0, 1) := by decide +kernel
theorem dX1_tell_20 : decode cX1_tell 20 = .ok (.getfield 18, 3) := by decide +kernel
theorem dX1_tell_23 : decode cX1_tell 23 = .ok (.if_icmp .lt 6, 3) := by decide +kernel
theorem dX1_tell_26 : decode cX1_tell 26 = .ok (.bipush (-2), 2) := by decide +kernel
theorem dX1_tell_28 : decode cX1_tell 28 = .ok (.ireturn, 1) := by decide +kernel
theorem dX1_tell_29 : decode cX1_tell 29 = .ok (.iload_n 2, 1) := by decide +kernel
theorem dX1_tell_30 : decode cX1_tell 30 = .ok (.lookupswitch 40 #[(0, 26), (1, 33)], 26) := by decide +kernel
theorem dX1_tell_56 : decode cX1_tell 56 = .ok (.aload_n 0, 1) := by decide +kernel
theorem dX1_tell_57 : decode cX1_tell 57 = .ok (.getfield 9, 3) := by decide +kernel
theorem dX1_tell_60 : decode cX1_tell 60 = .ok (.iload_n 1, 1) := by decide +kernel
theorem dX1_tell_61 : decode cX1_tell 61 = .ok (.iaload, 1) := by decide +kernel
theorem dX1_tell_62 : decode cX1_tell 62 = .ok (.ireturn, 1) := by decide +kernel
theorem dX1_tell_63 : decode cX1_tell 63 = .ok (.aload_n 0, 1) := by decide +kernel
theorem dX1_tell_64 : decode cX1_tell 64 = .ok (.getfield 15, 3) := by decide +kernel
theorem dX1_tell_67 : decode cX1_tell 67 = .ok (.iload_n 1, 1) := by decide +kernel
theorem dX1_tell_68 : decode cX1_tell 68 = .ok (.iaload, 1) := by decide +kernel
theorem dX1_tell_69 : decode cX1_tell 69 = .ok (.ireturn, 1) := by decide +kernel
theorem dX1_tell_70 : decode cX1_tell 70 = .ok (.bipush (-2), 2) := by decide +kernel
theorem dX1_tell_72 : decode cX1_tell 72 = .ok (.ireturn, 1) := by decide +kernel
theorem dX2_init_0 : decode cX2_init 0 = .ok (.aload_n 0, 1) := by decide +kernel
theorem dX2_init_1 : decode cX2_init 1 = .ok (.invokespecial 3, 3) := by decide +kernel
theorem dX2_init_4 : decode cX2_init 4 = .ok (.aload_n 0, 1) := by decide +kernel
theorem dX2_init_5 : decode cX2_init 5 = .ok (.new 9, 3) := by decide +kernel
theorem dX2_init_8 : decode cX2_init 8 = .ok (.dup, 1) := by decide +kernel
theorem dX2_init_9 : decode cX2_init 9 = .ok (.invokespecial 11, 3) := by decide +kernel
theorem dX2_init_12 : decode cX2_init 12 = .ok (.putfield 12, 3) := by decide +kernel
theorem dX2_init_15 : decode cX2_init 15 = .ok (.aload_n 0, 1) := by decide +kernel
theorem dX2_init_16 : decode cX2_init 16 = .ok (.new 18, 3) := by decide +kernel
theorem dX2_init_19 : decode cX2_init 19 = .ok (.dup, 1) := by decide +kernel
theorem dX2_init_20 : decode cX2_init 20 = .ok (.invokespecial 20, 3) := by decide +kernel
theorem dX2_init_23 : decode cX2_init 23 = .ok (.putfield 21, 3) := by decide +kernel
theorem dX2_init_26 : decode cX2_init 26 = .ok (.aload_n 0, 1) := by decide +kernel
theorem dX2_init_27 : decode cX2_init 27 = .ok (.new 25, 3) := by decide +kernel
theorem dX2_init_30 : decode cX2_init 30 = .ok (.dup, 1) := by decide +kernel
theorem dX2_init_31 : decode cX2_init 31 = .ok (.invokespecial 27, 3) := by decide +kernel
theorem dX2_init_34 : decode cX2_init 34 = .ok (.putfield 28, 3) := by decide +kernel
theorem dX2_init_37 : decode cX2_init 37 = .ok (.aload_n 0, 1) := by decide +kernel
theorem dX2_init_38 : decode cX2_init 38 = .ok (.new 32, 3) := by decide +kernel
theorem dX2_init_41 : decode cX2_init 41 = .ok (.dup, 1) := by decide +kernel
theorem dX2_init_42 : decode cX2_init 42 = .ok (.invokespecial 34, 3) := by decide +kernel
theorem dX2_init_45 : decode cX2_init 45 = .ok (.putfield 35, 3) := by decide +kernel
theorem dX2_init_48 : decode cX2_init 48 = .ok (.aload_n 0, 1) := by decide +kernel
theorem dX2_init_49 : decode cX2_init 49 = .ok (.iconst 4, 1) := by decide +kernel
theorem dX2_init_50 : decode cX2_init 50 = .ok (.newarray .int, 2) := by decide +kernel
theorem dX2_init_52 : decode cX2_init 52 = .ok (.putfield 39, 3) := by decide +kernel
theorem dX2_init_55 : decode cX2_init 55 = .ok (.aload_n 0, 1) := by decide +kernel
theorem dX2_init_56 : decode cX2_init 56 = .ok (.iconst 4, 1) := by decide +kernel
theorem dX2_init_57 : decode cX2_init 57 = .ok (.newarray .int, 2) := by decide +kernel
theorem dX2_init_59 : decode cX2_init 59 = .ok (.putfield 43, 3) := by decide +kernel
theorem dX2_init_62 : decode cX2_init 62 = .ok (.aload_n 0, 1) := by decide +kernel
theorem dX2_init_63 : decode cX2_init 63 = .ok (.iconst 0, 1) := by decide +kernel
theorem dX2_init_64 : decode cX2_init 64 = .ok (.newarray .byte, 2) := by decide +kernel
theorem dX2_init_66 : decode cX2_init 66 = .ok (.putfield 46, 3) := by decide +kernel
theorem dX2_init_69 : decode cX2_init 69 = .ok (.return_, 1) := by decide +kernel
theorem dX2_read_0 : decode cX2_read 0 = .ok (.aload_n 0, 1) := by decide +kernel
theorem dX2_read_1 : decode cX2_read 1 = .ok (.aload_n 2, 1) := by decide +kernel
theorem dX2_read_2 : decode cX2_read 2 = .ok (.putfield 46, 3) := by decide +kernel
theorem dX2_read_5 : decode cX2_read 5 = .ok (.aload_n 0, 1) := by decide +kernel
theorem dX2_read_6 : decode cX2_read 6 = .ok (.iload_n 3, 1) := by decide +kernel
theorem dX2_read_7 : decode cX2_read 7 = .ok (.aload_n 2, 1) := by decide +kernel
theorem dX2_read_8 : decode cX2_read 8 = .ok (.arraylength, 1) := by decide +kernel
theorem dX2_read_9 : decode cX2_read 9 = .ok (.invokestatic 50, 3) := by decide +kernel
theorem dX2_read_12 : decode cX2_read 12 = .ok (.putfield 56, 3) := by decide +kernel
theorem dX2_read_15 : decode cX2_read 15 = .ok (.aload_n 0, 1) := by decide +kernel
theorem dX2_read_16 : decode cX2_read 16 = .ok (.iconst 0, 1) := by decide +kernel
theorem dX2_read_17 : decode cX2_read 17 = .ok (.putfield 60, 3) := by decide +kernel
theorem dX2_read_20 : decode cX2_read 20 = .ok (.aload_n 0, 1) := by decide +kernel
theorem dX2_read_21 : decode cX2_read 21 = .ok (.iconst 0, 1) := by decide +kernel
theorem dX2_read_22 : decode cX2_read 22 = .ok (.putfield 63, 3) := by decide +kernel
theorem dX2_read_25 : decode cX2_read 25 = .ok (.aload_n 0, 1) := by decide +kernel
theorem dX2_read_26 : decode cX2_read 26 = .ok (.iconst 0, 1) := by decide +kernel
theorem dX2_read_27 : decode cX2_read 27 = .ok (.putfield 66, 3) := by decide +kernel
theorem dX2_read_30 : decode cX2_read 30 = .ok (.aload_n 0, 1) := by decide +kernel
theorem dX2_read_31 : decode cX2_read 31 = .ok (.iconst (-1), 1) := by decide +kernel
theorem dX2_read_32 : decode cX2_read 32 = .ok (.putfield 69, 3) := by decide +kernel
theorem dX2_read_35 : decode cX2_read 35 = .ok (.aload_n 0, 1) := by decide +kernel
theorem dX2_read_36 : decode cX2_read 36 = .ok (.getfield 12, 3) := by decide +kernel
theorem dX2_read_39 : decode cX2_read 39 = .ok (.invokevirtual 72, 3) := by decide +kernel
theorem dX2_read_42 : decode cX2_read 42 = .ok (.aload_n 0, 1) := by decide +kernel
theorem dX2_read_43 : decode cX2_read 43 = .ok (.getfield 21, 3) := by decide +kernel
theorem dX2_read_46 : decode cX2_read 46 = .ok (.iconst 0, 1) := by decide +kernel
theorem dX2_read_47 : decode cX2_read 47 = .ok (.putfield 75, 3) := by decide +kernel
theorem dX2_read_50 : decode cX2_read 50 = .ok (.aload_n 0, 1) := by decide +kernel
theorem dX2_read_51 : decode cX2_read 51 = .ok (.getfield 28, 3) := by decide +kernel
theorem dX2_read_54 : decode cX2_read 54 = .ok (.invokevirtual 78, 3) := by decide +kernel
theorem dX2_read_57 : decode cX2_read 57 = .ok (.aload_n 0, 1) := by decide +kernel
theorem dX2_read_58 : decode cX2_read 58 = .ok (.getfield 35, 3) := by decide +kernel
theorem dX2_read_61 : decode cX2_read 61 = .ok (.iconst 0, 1) := by decide +kernel
theorem dX2_read_62 : decode cX2_read 62 = .ok (.putfield 79, 3) := by decide +kernel
theorem dX2_read_65 : decode cX2_read 65 = .ok (.aload_n 0, 1) := by decide +kernel
theorem dX2_read_66 : decode cX2_read 66 = .ok (.invokevirtual 82, 3) := by decide +kernel
theorem dX2_read_69 : decode cX2_read 69 = .ok (.iconst 0, 1) := by decide +kernel
theorem dX2_read_70 : decode cX2_read 70 = .ok (.istore 4, 2) := by decide +kernel
theorem dX2_read_72 : decode cX2_read 72 = .ok (.iload 4, 2) := by decide +kernel
theorem dX2_read_74 : decode cX2_read 74 = .ok (.sipush 600, 3) := by decide +kernel
theorem dX2_read_77 : decode cX2_read 77 = .ok (.if_icmp .ge 29, 3) := by decide +kernel
theorem dX2_read_80 : decode cX2_read 80 = .ok (.aload_n 0, 1) := by decide +kernel
theorem dX2_read_81 : decode cX2_read 81 = .ok (.getfield 85, 3) := by decide +kernel
theorem dX2_read_84 : decode cX2_read 84 = .ok (.ifCond .eq 22, 3) := by decide +kernel
theorem dX2_read_87 : decode cX2_read 87 = .ok (.aload_n 0, 1) := by decide +kernel
theorem dX2_read_88 : decode cX2_read 88 = .ok (.getfield 66, 3) := by decide +kernel
theorem dX2_read_91 : decode cX2_read 91 = .ok (.iconst 1, 1) := by decide +kernel
theorem dX2_read_92 : decode cX2_read 92 = .ok (.if_icmp .eq 14, 3) := by decide +kernel
theorem dX2_read_95 : decode cX2_read 95 = .ok (.aload_n 0, 1) := by decide +kernel
theorem dX2_read_96 : decode cX2_read 96 = .ok (.iload_n 1, 1) := by decide +kernel
theorem dX2_read_97 : decode cX2_read 97 = .ok (.invokevirtual 88, 3) := by decide +kernel
theorem dX2_read_100 : decode cX2_read 100 = .ok (.iinc 4 1, 3) := by decide +kernel
theorem dX2_read_103 : decode cX2_read 103 = .ok (.goto (-31), 3) := by decide +kernel
theorem dX2_read_106 : decode cX2_read 106 = .ok (.iload_n 1, 1) := by decide +kernel
theorem dX2_read_107 : decode cX2_read 107 = .ok (.ifCond .ne 18, 3) := by decide +kernel
theorem dX2_read_110 : decode cX2_read 110 = .ok (.aload_n 0, 1) := by decide +kernel
theorem dX2_read_111 : decode cX2_read 111 = .ok (.getfield 63, 3) := by decide +kernel
theorem dX2_read_114 : decode cX2_read 114 = .ok (.aload_n 0, 1) := by decide +kernel
theorem dX2_read_115 : decode cX2_read 115 = .ok (.getfield 12, 3) := by decide +kernel
theorem dX2_read_118 : decode cX2_read 118 = .ok (.getfield 92, 3) := by decide +kernel
theorem dX2_read_121 : decode cX2_read 121 = .ok (.ishr, 1) := by decide +kernel
theorem dX2_read_122 : decode cX2_read 122 = .ok (.ifCond .ne 23, 3) := by decide +kernel
theorem dX2_read_125 : decode cX2_read 125 = .ok (.iload_n 1, 1) := by decide +kernel
theorem dX2_read_126 : decode cX2_read 126 = .ok (.iconst 2, 1) := by decide +kernel
theorem dX2_read_127 : decode cX2_read 127 = .ok (.if_icmp .ne 22, 3) := by decide +kernel
theorem dX2_read_130 : decode cX2_read 130 = .ok (.aload_n 0, 1) := by decide +kernel
theorem dX2_read_131 : decode cX2_read 131 = .ok (.getfield 63, 3) := by decide +kernel
theorem dX2_read_134 : decode cX2_read 134 = .ok (.aload_n 0, 1) := by decide +kernel
theorem dX2_read_135 : decode cX2_read 135 = .ok (.getfield 28, 3) := by decide +kernel
theorem dX2_read_138 : decode cX2_read 138 = .ok (.getfield 95, 3) := by decide +kernel
theorem dX2_read_141 : decode cX2_read 141 = .ok (.ishr, 1) := by decide +kernel
theorem dX2_read_142 : decode cX2_read 142 = .ok (.ifCond .eq 7, 3) := by decide +kernel
theorem dX2_read_145 : decode cX2_read 145 = .ok (.iconst 1, 1) := by decide +kernel
theorem dX2_read_146 : decode cX2_read 146 = .ok (.goto 4, 3) := by decide +kernel
theorem dX2_read_149 : decode cX2_read 149 = .ok (.iconst 0, 1) := by decide +kernel
theorem dX2_read_150 : decode cX2_read 150 = .ok (.istore 4, 2) := by decide +kernel
theorem dX2_read_152 : decode cX2_read 152 = .ok (.iload 4, 2) := by decide +kernel
theorem dX2_read_154 : decode cX2_read 154 = .ok (.ifCond .eq 12, 3) := by decide +kernel
theorem dX2_read_157 : decode cX2_read 157 = .ok (.aload_n 0, 1) := by decide +kernel
theorem dX2_read_158 : decode cX2_read 158 = .ok (.iconst 4, 1) := by decide +kernel
theorem dX2_read_159 : decode cX2_read 159 = .ok (.aload_n 0, 1) := by decide +kernel
theorem dX2_read_160 : decode cX2_read 160 = .ok (.getfield 56, 3) := by decide +kernel
theorem dX2_read_163 : decode cX2_read 163 = .ok (.invokevirtual 98, 3) := by decide +kernel
theorem dX2_read_166 : decode cX2_read 166 = .ok (.return_, 1) := by decide +kernel
theorem dX2_line_0 : decode cX2_line 0 = .ok (.aload_n 0, 1) := by decide +kernel
theorem dX2_line_1 : decode cX2_line 1 = .ok (.getfield 102, 3) := by decide +kernel
theorem dX2_line_4 : decode cX2_line 4 = .ok (.istore_n 2, 1) := by decide +kernel
theorem dX2_line_5 : decode cX2_line 5 = .ok (.aload_n 0, 1) := by decide +kernel
theorem dX2_line_6 : decode cX2_line 6 = .ok (.getfield 85, 3) := by decide +kernel
theorem dX2_line_9 : decode cX2_line 9 = .ok (.iconst 1, 1) := by decide +kernel
theorem dX2_line_10 : decode cX2_line 10 = .ok (.if_icmp .ne 11, 3) := by decide +kernel
theorem dX2_line_13 : decode cX2_line 13 = .ok (.aload_n 0, 1) := by decide +kernel
theorem dX2_line_14 : decode cX2_line 14 = .ok (.iload_n 1, 1) := by decide +kernel
theorem dX2_line_15 : decode cX2_line 15 = .ok (.invokevirtual 105, 3) := by decide +kernel
theorem dX2_line_18 : decode cX2_line 18 = .ok (.goto 4, 3) := by decide +kernel
theorem dX2_line_21 : decode cX2_line 21 = .ok (.iconst (-1), 1) := by decide +kernel
theorem dX2_line_22 : decode cX2_line 22 = .ok (.istore_n 3, 1) := by decide +kernel
theorem dX2_line_23 : decode cX2_line 23 = .ok (.iload_n 3, 1) := by decide +kernel
theorem dX2_line_24 : decode cX2_line 24 = .ok (.iconst (-1), 1) := by decide +kernel
theorem dX2_line_25 : decode cX2_line 25 = .ok (.if_icmp .ne 8, 3) := by decide +kernel
theorem dX2_line_28 : decode cX2_line 28 = .ok (.aload_n 0, 1) := by decide +kernel
theorem dX2_line_29 : decode cX2_line 29 = .ok (.invokevirtual 109, 3) := by decide +kernel
theorem dX2_line_32 : decode cX2_line 32 = .ok (.return_, 1) := by decide +kernel
theorem dX2_line_33 : decode cX2_line 33 = .ok (.aload_n 0, 1) := by decide +kernel
theorem dX2_line_34 : decode cX2_line 34 = .ok (.invokevirtual 82, 3) := by decide +kernel
theorem dX2_line_37 : decode cX2_line 37 = .ok (.iload_n 1, 1) := by decide +kernel
theorem dX2_line_38 : decode cX2_line 38 = .ok (.iload_n 3, 1) := by decide +kernel
theorem dX2_line_39 : decode cX2_line 39 = .ok (.invokestatic 112, 3) := by decide +kernel
theorem dX2_line_42 : decode cX2_line 42 = .ok (.istore 4, 2) := by decide +kernel
theorem dX2_line_44 : decode cX2_line 44 = .ok (.iconst 0, 1) := by decide +kernel
theorem dX2_line_45 : decode cX2_line 45 = .ok (.istore 5, 2) := by decide +kernel
theorem dX2_line_47 : decode cX2_line 47 = .ok (.iload 5, 2) := by decide +kernel
theorem dX2_line_49 : decode cX2_line 49 = .ok (.iload 4, 2) := by decide +kernel
theorem dX2_line_51 : decode cX2_line 51 = .ok (.if_icmp .ge 54, 3) := by decide +kernel
theorem dX2_line_54 : decode cX2_line 54 = .ok (.iload 5, 2) := by decide +kernel
theorem dX2_line_56 : decode cX2_line 56 = .ok (.iconst 4, 1) := by decide +kernel
theorem dX2_line_57 : decode cX2_line 57 = .ok (.if_icmp .ge 48, 3) := by decide +kernel
theorem dX2_line_60 : decode cX2_line 60 = .ok (.aload_n 0, 1) := by decide +kernel
theorem dX2_line_61 : decode cX2_line 61 = .ok (.getfield 85, 3) := by decide +kernel
theorem dX2_line_64 : decode cX2_line 64 = .ok (.iconst 2, 1) := by decide +kernel
theorem dX2_line_65 : decode cX2_line 65 = .ok (.if_icmp .eq 8, 3) := by decide +kernel
theorem dX2_line_68 : decode cX2_line 68 = .ok (.aload_n 0, 1) := by decide +kernel
theorem dX2_line_69 : decode cX2_line 69 = .ok (.invokevirtual 109, 3) := by decide +kernel
theorem dX2_line_72 : decode cX2_line 72 = .ok (.return_, 1) := by decide +kernel
theorem dX2_line_73 : decode cX2_line 73 = .ok (.aload_n 0, 1) := by decide +kernel
theorem dX2_line_74 : decode cX2_line 74 = .ok (.getfield 39, 3) := by decide +kernel
theorem dX2_line_77 : decode cX2_line 77 = .ok (.iload 5, 2) := by decide +kernel
theorem dX2_line_79 : decode cX2_line 79 = .ok (.aload_n 0, 1) := by decide +kernel
theorem dX2_line_80 : decode cX2_line 80 = .ok (.invokevirtual 115, 3) := by decide +kernel
theorem dX2_line_83 : decode cX2_line 83 = .ok (.iastore, 1) := by decide +kernel
theorem dX2_line_84 : decode cX2_line 84 = .ok (.aload_n 0, 1) := by decide +kernel
theorem dX2_line_85 : decode cX2_line 85 = .ok (.getfield 43, 3) := by decide +kernel
theorem dX2_line_88 : decode cX2_line 88 = .ok (.iload 5, 2) := by decide +kernel
theorem dX2_line_90 : decode cX2_line 90 = .ok (.aload_n 0, 1) := by decide +kernel
theorem dX2_line_91 : decode cX2_line 91 = .ok (.getfield 102, 3) := by decide +kernel
theorem dX2_line_94 : decode cX2_line 94 = .ok (.iastore, 1) := by decide +kernel
theorem dX2_line_95 : decode cX2_line 95 = .ok (.aload_n 0, 1) := by decide +kernel
theorem dX2_line_96 : decode cX2_line 96 = .ok (.invokevirtual 82, 3) := by decide +kernel
theorem dX2_line_99 : decode cX2_line 99 = .ok (.iinc 5 1, 3) := by decide +kernel
theorem dX2_line_102 : decode cX2_line 102 = .ok (.goto (-55), 3) := by decide +kernel
theorem dX2_line_105 : decode cX2_line 105 = .ok (.aload_n 0, 1) := by decide +kernel
theorem dX2_line_106 : decode cX2_line 106 = .ok (.getfield 85, 3) := by decide +kernel
theorem dX2_line_109 : decode cX2_line 109 = .ok (.iconst 3, 1) := by decide +kernel
theorem dX2_line_110 : decode cX2_line 110 = .ok (.if_icmp .eq 8, 3) := by decide +kernel
theorem dX2_line_113 : decode cX2_line 113 = .ok (.aload_n 0, 1) := by decide +kernel
theorem dX2_line_114 : decode cX2_line 114 = .ok (.invokevirtual 109, 3) := by decide +kernel
theorem dX2_line_117 : decode cX2_line 117 = .ok (.return_, 1) := by decide +kernel
theorem dX2_line_118 : decode cX2_line 118 = .ok (.aload_n 0, 1) := by decide +kernel
theorem dX2_line_119 : decode cX2_line 119 = .ok (.invokevirtual 82, 3) := by decide +kernel
theorem dX2_line_122 : decode cX2_line 122 = .ok (.iload_n 1, 1) := by decide +kernel
theorem dX2_line_123 : decode cX2_line 123 = .ok (.tableswitch 52 0 2 #[25, 34, 43], 25) := by decide +kernel
theorem dX2_line_148 : decode cX2_line 148 = .ok (.aload_n 0, 1) := by decide +kernel
theorem dX2_line_149 : decode cX2_line 149 = .ok (.iload_n 3, 1) := by decide +kernel
theorem dX2_line_150 : decode cX2_line 150 = .ok (.iload_n 2, 1) := by decide +kernel
theorem dX2_line_151 : decode cX2_line 151 = .ok (.invokevirtual 119, 3) := by decide +kernel
theorem dX2_line_154 : decode cX2_line 154 = .ok (.goto 27, 3) := by decide +kernel
theorem dX2_line_157 : decode cX2_line 157 = .ok (.aload_n 0, 1) := by decide +kernel
theorem dX2_line_158 : decode cX2_line 158 = .ok (.iload_n 3, 1) := by decide +kernel
theorem dX2_line_159 : decode cX2_line 159 = .ok (.iload_n 2, 1) := by decide +kernel
theorem dX2_line_160 : decode cX2_line 160 = .ok (.invokevirtual 122, 3) := by decide +kernel
theorem dX2_line_163 : decode cX2_line 163 = .ok (.goto 18, 3) := by decide +kernel
theorem dX2_line_166 : decode cX2_line 166 = .ok (.aload_n 0, 1) := by decide +kernel
theorem dX2_line_167 : decode cX2_line 167 = .ok (.iload_n 3, 1) := by decide +kernel
theorem dX2_line_168 : decode cX2_line 168 = .ok (.iload_n 2, 1) := by decide +kernel
theorem dX2_line_169 : decode cX2_line 169 = .ok (.invokevirtual 125, 3) := by decide +kernel
theorem dX2_line_172 : decode cX2_line 172 = .ok (.goto 9, 3) := by decide +kernel
theorem dX2_line_175 : decode cX2_line 175 = .ok (.aload_n 0, 1) := by decide +kernel
theorem dX2_line_176 : decode cX2_line 176 = .ok (.iload_n 3, 1) := by decide +kernel
theorem dX2_line_177 : decode cX2_line 177 = .ok (.iload_n 2, 1) := by decide +kernel
theorem dX2_line_178 : decode cX2_line 178 = .ok (.invokevirtual 128, 3) := by decide +kernel
theorem dX2_line_181 : decode cX2_line 181 = .ok (.return_, 1) := by decide +kernel
theorem dX2_wordOf_0 : decode cX2_wordOf 0 = .ok (.iload_n 1, 1) := by decide +kernel
theorem dX2_wordOf_1 : decode cX2_wordOf 1 = .ok (.tableswitch 273 0 3 #[31, 85, 165, 232], 31) := by decide +kernel
theorem dX2_wordOf_32 : decode cX2_wordOf 32 = .ok (.aload_n 0, 1) := by decide +kernel
theorem dX2_wordOf_33 : decode cX2_wordOf 33 = .ok (.ldc 131, 2) := by decide +kernel
theorem dX2_wordOf_35 : decode cX2_wordOf 35 = .ok (.invokevirtual 133, 3) := by decide +kernel
theorem dX2_wordOf_38 : decode cX2_wordOf 38 = .ok (.ifCond .eq 7, 3) := by decide +kernel
theorem dX2_wordOf_41 : decode cX2_wordOf 41 = .ok (.iconst 0, 1) := by decide +kernel
theorem dX2_wordOf_42 : decode cX2_wordOf 42 = .ok (.goto 43, 3) := by decide +kernel
theorem dX2_wordOf_45 : decode cX2_wordOf 45 = .ok (.aload_n 0, 1) := by decide +kernel
theorem dX2_wordOf_46 : decode cX2_wordOf 46 = .ok (.ldc 137, 2) := by decide +kernel
theorem dX2_wordOf_48 : decode cX2_wordOf 48 = .ok (.invokevirtual 133, 3) := by decide +kernel
theorem dX2_wordOf_51 : decode cX2_wordOf 51 = .ok (.ifCond .eq 7, 3) := by decide +kernel
theorem dX2_wordOf_54 : decode cX2_wordOf 54 = .ok (.iconst 1, 1) := by decide +kernel
theorem dX2_wordOf_55 : decode cX2_wordOf 55 = .ok (.goto 30, 3) := by decide +kernel
theorem dX2_wordOf_58 : decode cX2_wordOf 58 = .ok (.aload_n 0, 1) := by decide +kernel
theorem dX2_wordOf_59 : decode cX2_wordOf 59 = .ok (.ldc 139, 2) := by decide +kernel
theorem dX2_wordOf_61 : decode cX2_wordOf 61 = .ok (.invokevirtual 133, 3) := by decide +kernel
theorem dX2_wordOf_64 : decode cX2_wordOf 64 = .ok (.ifCond .eq 7, 3) := by decide +kernel
theorem dX2_wordOf_67 : decode cX2_wordOf 67 = .ok (.iconst 2, 1) := by decide +kernel
theorem dX2_wordOf_68 : decode cX2_wordOf 68 = .ok (.goto 17, 3) := by decide +kernel
theorem dX2_wordOf_71 : decode cX2_wordOf 71 = .ok (.aload_n 0, 1) := by decide +kernel
theorem dX2_wordOf_72 : decode cX2_wordOf 72 = .ok (.ldc 141, 2) := by decide +kernel
theorem dX2_wordOf_74 : decode cX2_wordOf 74 = .ok (.invokevirtual 133, 3) := by decide +kernel
theorem dX2_wordOf_77 : decode cX2_wordOf 77 = .ok (.ifCond .eq 7, 3) := by decide +kernel
theorem dX2_wordOf_80 : decode cX2_wordOf 80 = .ok (.iconst 3, 1) := by decide +kernel
theorem dX2_wordOf_81 : decode cX2_wordOf 81 = .ok (.goto 4, 3) := by decide +kernel
theorem dX2_wordOf_84 : decode cX2_wordOf 84 = .ok (.iconst (-1), 1) := by decide +kernel
theorem dX2_wordOf_85 : decode cX2_wordOf 85 = .ok (.ireturn, 1) := by decide +kernel
theorem dX2_wordOf_86 : decode cX2_wordOf 86 = .ok (.aload_n 0, 1) := by decide +kernel
theorem dX2_wordOf_87 : decode cX2_wordOf 87 = .ok (.ldc 143, 2) := by decide +kernel
theorem dX2_wordOf_89 : decode cX2_wordOf 89 = .ok (.invokevirtual 133, 3) := by decide +kernel
theorem dX2_wordOf_92 : decode cX2_wordOf 92 = .ok (.ifCond .eq 7, 3) := by decide +kernel
theorem dX2_wordOf_95 : decode cX2_wordOf 95 = .ok (.iconst 0, 1) := by decide +kernel
theorem dX2_wordOf_96 : decode cX2_wordOf 96 = .ok (.goto 69, 3) := by decide +kernel
theorem dX2_wordOf_99 : decode cX2_wordOf 99 = .ok (.aload_n 0, 1) := by decide +kernel
theorem dX2_wordOf_100 : decode cX2_wordOf 100 = .ok (.ldc 145, 2) := by decide +kernel
theorem dX2_wordOf_102 : decode cX2_wordOf 102 = .ok (.invokevirtual 133, 3) := by decide +kernel
theorem dX2_wordOf_105 : decode cX2_wordOf 105 = .ok (.ifCond .eq 7, 3) := by decide +kernel
theorem dX2_wordOf_108 : decode cX2_wordOf 108 = .ok (.iconst 1, 1) := by decide +kernel
theorem dX2_wordOf_109 : decode cX2_wordOf 109 = .ok (.goto 56, 3) := by decide +kernel
theorem dX2_wordOf_112 : decode cX2_wordOf 112 = .ok (.aload_n 0, 1) := by decide +kernel
theorem dX2_wordOf_113 : decode cX2_wordOf 113 = .ok (.ldc 147, 2) := by decide +kernel
theorem dX2_wordOf_115 : decode cX2_wordOf 115 = .ok (.invokevirtual 133, 3) := by decide +kernel
theorem dX2_wordOf_118 : decode cX2_wordOf 118 = .ok (.ifCond .eq 7, 3) := by decide +kernel
theorem dX2_wordOf_121 : decode cX2_wordOf 121 = .ok (.iconst 2, 1) := by decide +kernel
theorem dX2_wordOf_122 : decode cX2_wordOf 122 = .ok (.goto 43, 3) := by decide +kernel
theorem dX2_wordOf_125 : decode cX2_wordOf 125 = .ok (.aload_n 0, 1) := by decide +kernel
theorem dX2_wordOf_126 : decode cX2_wordOf 126 = .ok (.ldc 149, 2) := by decide +kernel
theorem dX2_wordOf_128 : decode cX2_wordOf 128 = .ok (.invokevirtual 133, 3) := by decide +kernel
theorem dX2_wordOf_131 : decode cX2_wordOf 131 = .ok (.ifCond .eq 7, 3) := by decide +kernel
theorem dX2_wordOf_134 : decode cX2_wordOf 134 = .ok (.iconst 3, 1) := by decide +kernel
theorem dX2_wordOf_135 : decode cX2_wordOf 135 = .ok (.goto 30, 3) := by decide +kernel
theorem dX2_wordOf_138 : decode cX2_wordOf 138 = .ok (.aload_n 0, 1) := by decide +kernel
theorem dX2_wordOf_139 : decode cX2_wordOf 139 = .ok (.ldc 151, 2) := by decide +kernel
theorem dX2_wordOf_141 : decode cX2_wordOf 141 = .ok (.invokevirtual 133, 3) := by decide +kernel
theorem dX2_wordOf_144 : decode cX2_wordOf 144 = .ok (.ifCond .eq 7, 3) := by decide +kernel
theorem dX2_wordOf_147 : decode cX2_wordOf 147 = .ok (.iconst 4, 1) := by decide +kernel
theorem dX2_wordOf_148 : decode cX2_wordOf 148 = .ok (.goto 17, 3) := by decide +kernel
theorem dX2_wordOf_151 : decode cX2_wordOf 151 = .ok (.aload_n 0, 1) := by decide +kernel
theorem dX2_wordOf_152 : decode cX2_wordOf 152 = .ok (.ldc 153, 2) := by decide +kernel
theorem dX2_wordOf_154 : decode cX2_wordOf 154 = .ok (.invokevirtual 133, 3) := by decide +kernel
theorem dX2_wordOf_157 : decode cX2_wordOf 157 = .ok (.ifCond .eq 7, 3) := by decide +kernel
theorem dX2_wordOf_160 : decode cX2_wordOf 160 = .ok (.iconst 5, 1) := by decide +kernel
theorem dX2_wordOf_161 : decode cX2_wordOf 161 = .ok (.goto 4, 3) := by decide +kernel
theorem dX2_wordOf_164 : decode cX2_wordOf 164 = .ok (.iconst (-1), 1) := by decide +kernel
theorem dX2_wordOf_165 : decode cX2_wordOf 165 = .ok (.ireturn, 1) := by decide +kernel
theorem dX2_wordOf_166 : decode cX2_wordOf 166 = .ok (.aload_n 0, 1) := by decide +kernel
theorem dX2_wordOf_167 : decode cX2_wordOf 167 = .ok (.ldc 155, 2) := by decide +kernel
theorem dX2_wordOf_169 : decode cX2_wordOf 169 = .ok (.invokevirtual 133, 3) := by decide +kernel
theorem dX2_wordOf_172 : decode cX2_wordOf 172 = .ok (.ifCond .eq 7, 3) := by decide +kernel
theorem dX2_wordOf_175 : decode cX2_wordOf 175 = .ok (.iconst 0, 1) := by decide +kernel
theorem dX2_wordOf_176 : decode cX2_wordOf 176 = .ok (.goto 56, 3) := by decide +kernel
theorem dX2_wordOf_179 : decode cX2_wordOf 179 = .ok (.aload_n 0, 1) := by decide +kernel
theorem dX2_wordOf_180 : decode cX2_wordOf 180 = .ok (.ldc 157, 2) := by decide +kernel
theorem dX2_wordOf_182 : decode cX2_wordOf 182 = .ok (.invokevirtual 133, 3) := by decide +kernel
theorem dX2_wordOf_185 : decode cX2_wordOf 185 = .ok (.ifCond .eq 7, 3) := by decide +kernel
theorem dX2_wordOf_188 : decode cX2_wordOf 188 = .ok (.iconst 1, 1) := by decide +kernel
theorem dX2_wordOf_189 : decode cX2_wordOf 189 = .ok (.goto 43, 3) := by decide +kernel
theorem dX2_wordOf_192 : decode cX2_wordOf 192 = .ok (.aload_n 0, 1) := by decide +kernel
theorem dX2_wordOf_193 : decode cX2_wordOf 193 = .ok (.ldc 159, 2) := by decide +kernel
theorem dX2_wordOf_195 : decode cX2_wordOf 195 = .ok (.invokevirtual 133, 3) := by decide +kernel
theorem dX2_wordOf_198 : decode cX2_wordOf 198 = .ok (.ifCond .eq 7, 3) := by decide +kernel
theorem dX2_wordOf_201 : decode cX2_wordOf 201 = .ok (.iconst 2, 1) := by decide +kernel
theorem dX2_wordOf_202 : decode cX2_wordOf 202 = .ok (.goto 30, 3) := by decide +kernel
theorem dX2_wordOf_205 : decode cX2_wordOf 205 = .ok (.aload_n 0, 1) := by decide +kernel
theorem dX2_wordOf_206 : decode cX2_wordOf 206 = .ok (.ldc 161, 2) := by decide +kernel
theorem dX2_wordOf_208 : decode cX2_wordOf 208 = .ok (.invokevirtual 133, 3) := by decide +kernel
theorem dX2_wordOf_211 : decode cX2_wordOf 211 = .ok (.ifCond .eq 7, 3) := by decide +kernel
theorem dX2_wordOf_214 : decode cX2_wordOf 214 = .ok (.iconst 3, 1) := by decide +kernel
theorem dX2_wordOf_215 : decode cX2_wordOf 215 = .ok (.goto 17, 3) := by decide +kernel
theorem dX2_wordOf_218 : decode cX2_wordOf 218 = .ok (.aload_n 0, 1) := by decide +kernel
theorem dX2_wordOf_219 : decode cX2_wordOf 219 = .ok (.ldc 163, 2) := by decide +kernel
theorem dX2_wordOf_221 : decode cX2_wordOf 221 = .ok (.invokevirtual 133, 3) := by decide +kernel
theorem dX2_wordOf_224 : decode cX2_wordOf 224 = .ok (.ifCond .eq 7, 3) := by decide +kernel
theorem dX2_wordOf_227 : decode cX2_wordOf 227 = .ok (.iconst 4, 1) := by decide +kernel
theorem dX2_wordOf_228 : decode cX2_wordOf 228 = .ok (.goto 4, 3) := by decide +kernel
theorem dX2_wordOf_231 : decode cX2_wordOf 231 = .ok (.iconst (-1), 1) := by decide +kernel
theorem dX2_wordOf_232 : decode cX2_wordOf 232 = .ok (.ireturn, 1) := by decide +kernel
theorem dX2_wordOf_233 : decode cX2_wordOf 233 = .ok (.aload_n 0, 1) := by decide +kernel
theorem dX2_wordOf_234 : decode cX2_wordOf 234 = .ok (.ldc 165, 2) := by decide +kernel
theorem dX2_wordOf_236 : decode cX2_wordOf 236 = .ok (.invokevirtual 133, 3) := by decide +kernel
theorem dX2_wordOf_239 : decode cX2_wordOf 239 = .ok (.ifCond .eq 7, 3) := by decide +kernel
theorem dX2_wordOf_242 : decode cX2_wordOf 242 = .ok (.iconst 0, 1) := by decide +kernel
theorem dX2_wordOf_243 : decode cX2_wordOf 243 = .ok (.goto 30, 3) := by decide +kernel
theorem dX2_wordOf_246 : decode cX2_wordOf 246 = .ok (.aload_n 0, 1) := by decide +kernel
theorem dX2_wordOf_247 : decode cX2_wordOf 247 = .ok (.ldc 167, 2) := by decide +kernel
theorem dX2_wordOf_249 : decode cX2_wordOf 249 = .ok (.invokevirtual 133, 3) := by decide +kernel
theorem dX2_wordOf_252 : decode cX2_wordOf 252 = .ok (.ifCond .eq 7, 3) := by decide +kernel
theorem dX2_wordOf_255 : decode cX2_wordOf 255 = .ok (.iconst 1, 1) := by decide +kernel
theorem dX2_wordOf_256 : decode cX2_wordOf 256 = .ok (.goto 17, 3) := by decide +kernel
theorem dX2_wordOf_259 : decode cX2_wordOf 259 = .ok (.aload_n 0, 1) := by decide +kernel
theorem dX2_wordOf_260 : decode cX2_wordOf 260 = .ok (.ldc 169, 2) := by decide +kernel
theorem dX2_wordOf_262 : decode cX2_wordOf 262 = .ok (.invokevirtual 133, 3) := by decide +kernel
theorem dX2_wordOf_265 : decode cX2_wordOf 265 = .ok (.ifCond .eq 7, 3) := by decide +kernel
theorem dX2_wordOf_268 : decode cX2_wordOf 268 = .ok (.iconst 2, 1) := by decide +kernel
theorem dX2_wordOf_269 : decode cX2_wordOf 269 = .ok (.goto 4, 3) := by decide +kernel
theorem dX2_wordOf_272 : decode cX2_wordOf 272 = .ok (.iconst (-1), 1) := by decide +kernel
theorem dX2_wordOf_273 : decode cX2_wordOf 273 = .ok (.ireturn, 1) := by decide +kernel
theorem dX2_wordOf_274 : decode cX2_wordOf 274 = .ok (.iconst (-1), 1) := by decide +kernel
theorem dX2_wordOf_275 : decode cX2_wordOf 275 = .ok (.ireturn, 1) := by decide +kernel
theorem dX2_numbersOf_0 : decode cX2_numbersOf 0 = .ok (.iload_n 0, 1) := by decide +kernel
theorem dX2_numbersOf_1 : decode cX2_numbersOf 1 = .ok (.tableswitch 86 0 2 #[27, 46, 57], 27) := by decide +kernel
theorem dX2_numbersOf_28 : decode cX2_numbersOf 28 = .ok (.iload_n 1, 1) := by decide +kernel
theorem dX2_numbersOf_29 : decode cX2_numbersOf 29 = .ok (.ifCond .ne 7, 3) := by decide +kernel
theorem dX2_numbersOf_32 : decode cX2_numbersOf 32 = .ok (.iconst 3, 1) := by decide +kernel
theorem dX2_numbersOf_33 : decode cX2_numbersOf 33 = .ok (.goto 13, 3) := by decide +kernel
theorem dX2_numbersOf_36 : decode cX2_numbersOf 36 = .ok (.iload_n 1, 1) := by decide +kernel
theorem dX2_numbersOf_37 : decode cX2_numbersOf 37 = .ok (.iconst 3, 1) := by decide +kernel
theorem dX2_numbersOf_38 : decode cX2_numbersOf 38 = .ok (.if_icmp .ne 7, 3) := by decide +kernel
theorem dX2_numbersOf_41 : decode cX2_numbersOf 41 = .ok (.iconst 1, 1) := by decide +kernel
theorem dX2_numbersOf_42 : decode cX2_numbersOf 42 = .ok (.goto 4, 3) := by decide +kernel
theorem dX2_numbersOf_45 : decode cX2_numbersOf 45 = .ok (.iconst 2, 1) := by decide +kernel
theorem dX2_numbersOf_46 : decode cX2_numbersOf 46 = .ok (.ireturn, 1) := by decide +kernel
theorem dX2_numbersOf_47 : decode cX2_numbersOf 47 = .ok (.iload_n 1, 1) := by decide +kernel
theorem dX2_numbersOf_48 : decode cX2_numbersOf 48 = .ok (.iconst 5, 1) := by decide +kernel
theorem dX2_numbersOf_49 : decode cX2_numbersOf 49 = .ok (.if_icmp .ne 7, 3) := by decide +kernel
theorem dX2_numbersOf_52 : decode cX2_numbersOf 52 = .ok (.iconst 0, 1) := by decide +kernel
theorem dX2_numbersOf_53 : decode cX2_numbersOf 53 = .ok (.goto 4, 3) := by decide +kernel
theorem dX2_numbersOf_56 : decode cX2_numbersOf 56 = .ok (.iconst 1, 1) := by decide +kernel
theorem dX2_numbersOf_57 : decode cX2_numbersOf 57 = .ok (.ireturn, 1) := by decide +kernel
theorem dX2_numbersOf_58 : decode cX2_numbersOf 58 = .ok (.iload_n 1, 1) := by decide +kernel
theorem dX2_numbersOf_59 : decode cX2_numbersOf 59 = .ok (.iconst 3, 1) := by decide +kernel
theorem dX2_numbersOf_60 : decode cX2_numbersOf 60 = .ok (.if_icmp .ne 7, 3) := by decide +kernel
theorem dX2_numbersOf_63 : decode cX2_numbersOf 63 = .ok (.iconst 4, 1) := by decide +kernel
theorem dX2_numbersOf_64 : decode cX2_numbersOf 64 = .ok (.goto 22, 3) := by decide +kernel
theorem dX2_numbersOf_67 : decode cX2_numbersOf 67 = .ok (.iload_n 1, 1) := by decide +kernel
theorem dX2_numbersOf_68 : decode cX2_numbersOf 68 = .ok (.iconst 4, 1) := by decide +kernel
theorem dX2_numbersOf_69 : decode cX2_numbersOf 69 = .ok (.if_icmp .ne 7, 3) := by decide +kernel
theorem dX2_numbersOf_72 : decode cX2_numbersOf 72 = .ok (.iconst 3, 1) := by decide +kernel
theorem dX2_numbersOf_73 : decode cX2_numbersOf 73 = .ok (.goto 13, 3) := by decide +kernel
theorem dX2_numbersOf_76 : decode cX2_numbersOf 76 = .ok (.iload_n 1, 1) := by decide +kernel
theorem dX2_numbersOf_77 : decode cX2_numbersOf 77 = .ok (.iconst 2, 1) := by decide +kernel
theorem dX2_numbersOf_78 : decode cX2_numbersOf 78 = .ok (.if_icmp .ne 7, 3) := by decide +kernel
theorem dX2_numbersOf_81 : decode cX2_numbersOf 81 = .ok (.iconst 2, 1) := by decide +kernel
theorem dX2_numbersOf_82 : decode cX2_numbersOf 82 = .ok (.goto 4, 3) := by decide +kernel
theorem dX2_numbersOf_85 : decode cX2_numbersOf 85 = .ok (.iconst 1, 1) := by decide +kernel
theorem dX2_numbersOf_86 : decode cX2_numbersOf 86 = .ok (.ireturn, 1) := by decide +kernel
theorem dX2_numbersOf_87 : decode cX2_numbersOf 87 = .ok (.iconst 2, 1) := by decide +kernel
theorem dX2_numbersOf_88 : decode cX2_numbersOf 88 = .ok (.ireturn, 1) := by decide +kernel
theorem dX2_lineOfCoat_0 : decode cX2_lineOfCoat 0 = .ok (.iload_n 1, 1) := by decide +kernel
theorem dX2_lineOfCoat_1 : decode cX2_lineOfCoat 1 = .ok (.tableswitch 240 0 2 #[27, 92, 181], 27) := by decide +kernel
theorem dX2_lineOfCoat_28 : decode cX2_lineOfCoat 28 = .ok (.aload_n 0, 1) := by decide +kernel
theorem dX2_lineOfCoat_29 : decode cX2_lineOfCoat 29 = .ok (.aload_n 0, 1) := by decide +kernel
theorem dX2_lineOfCoat_30 : decode cX2_lineOfCoat 30 = .ok (.getfield 12, 3) := by decide +kernel
theorem dX2_lineOfCoat_33 : decode cX2_lineOfCoat 33 = .ok (.getfield 92, 3) := by decide +kernel
theorem dX2_lineOfCoat_36 : decode cX2_lineOfCoat 36 = .ok (.bipush 9, 2) := by decide +kernel
theorem dX2_lineOfCoat_38 : decode cX2_lineOfCoat 38 = .ok (.iload_n 2, 1) := by decide +kernel
theorem dX2_lineOfCoat_39 : decode cX2_lineOfCoat 39 = .ok (.invokevirtual 171, 3) := by decide +kernel
theorem dX2_lineOfCoat_42 : decode cX2_lineOfCoat 42 = .ok (.aload_n 0, 1) := by decide +kernel
theorem dX2_lineOfCoat_43 : decode cX2_lineOfCoat 43 = .ok (.iconst 0, 1) := by decide +kernel
theorem dX2_lineOfCoat_44 : decode cX2_lineOfCoat 44 = .ok (.iconst 1, 1) := by decide +kernel
theorem dX2_lineOfCoat_45 : decode cX2_lineOfCoat 45 = .ok (.bipush 9, 2) := by decide +kernel
theorem dX2_lineOfCoat_47 : decode cX2_lineOfCoat 47 = .ok (.invokevirtual 175, 3) := by decide +kernel
theorem dX2_lineOfCoat_50 : decode cX2_lineOfCoat 50 = .ok (.aload_n 0, 1) := by decide +kernel
theorem dX2_lineOfCoat_51 : decode cX2_lineOfCoat 51 = .ok (.iconst 1, 1) := by decide +kernel
theorem dX2_lineOfCoat_52 : decode cX2_lineOfCoat 52 = .ok (.iconst 0, 1) := by decide +kernel
theorem dX2_lineOfCoat_53 : decode cX2_lineOfCoat 53 = .ok (.iconst 3, 1) := by decide +kernel
theorem dX2_lineOfCoat_54 : decode cX2_lineOfCoat 54 = .ok (.invokevirtual 175, 3) := by decide +kernel
theorem dX2_lineOfCoat_57 : decode cX2_lineOfCoat 57 = .ok (.aload_n 0, 1) := by decide +kernel
theorem dX2_lineOfCoat_58 : decode cX2_lineOfCoat 58 = .ok (.iconst 2, 1) := by decide +kernel
theorem dX2_lineOfCoat_59 : decode cX2_lineOfCoat 59 = .ok (.iconst 0, 1) := by decide +kernel
theorem dX2_lineOfCoat_60 : decode cX2_lineOfCoat 60 = .ok (.bipush 9, 2) := by decide +kernel
theorem dX2_lineOfCoat_62 : decode cX2_lineOfCoat 62 = .ok (.invokevirtual 175, 3) := by decide +kernel
theorem dX2_lineOfCoat_65 : decode cX2_lineOfCoat 65 = .ok (.aload_n 0, 1) := by decide +kernel
theorem dX2_lineOfCoat_66 : decode cX2_lineOfCoat 66 = .ok (.getfield 12, 3) := by decide +kernel
theorem dX2_lineOfCoat_69 : decode cX2_lineOfCoat 69 = .ok (.aload_n 0, 1) := by decide +kernel
theorem dX2_lineOfCoat_70 : decode cX2_lineOfCoat 70 = .ok (.getfield 39, 3) := by decide +kernel
theorem dX2_lineOfCoat_73 : decode cX2_lineOfCoat 73 = .ok (.iconst 0, 1) := by decide +kernel
theorem dX2_lineOfCoat_74 : decode cX2_lineOfCoat 74 = .ok (.iaload, 1) := by decide +kernel
theorem dX2_lineOfCoat_75 : decode cX2_lineOfCoat 75 = .ok (.aload_n 0, 1) := by decide +kernel
theorem dX2_lineOfCoat_76 : decode cX2_lineOfCoat 76 = .ok (.getfield 39, 3) := by decide +kernel
theorem dX2_lineOfCoat_79 : decode cX2_lineOfCoat 79 = .ok (.iconst 1, 1) := by decide +kernel
theorem dX2_lineOfCoat_80 : decode cX2_lineOfCoat 80 = .ok (.iaload, 1) := by decide +kernel
theorem dX2_lineOfCoat_81 : decode cX2_lineOfCoat 81 = .ok (.aload_n 0, 1) := by decide +kernel
theorem dX2_lineOfCoat_82 : decode cX2_lineOfCoat 82 = .ok (.getfield 39, 3) := by decide +kernel
theorem dX2_lineOfCoat_85 : decode cX2_lineOfCoat 85 = .ok (.iconst 2, 1) := by decide +kernel
theorem dX2_lineOfCoat_86 : decode cX2_lineOfCoat 86 = .ok (.iaload, 1) := by decide +kernel
theorem dX2_lineOfCoat_87 : decode cX2_lineOfCoat 87 = .ok (.invokevirtual 178, 3) := by decide +kernel
theorem dX2_lineOfCoat_90 : decode cX2_lineOfCoat 90 = .ok (.goto 172, 3) := by decide +kernel
theorem dX2_lineOfCoat_93 : decode cX2_lineOfCoat 93 = .ok (.aload_n 0, 1) := by decide +kernel
theorem dX2_lineOfCoat_94 : decode cX2_lineOfCoat 94 = .ok (.invokevirtual 181, 3) := by decide +kernel
theorem dX2_lineOfCoat_97 : decode cX2_lineOfCoat 97 = .ok (.aload_n 0, 1) := by decide +kernel
theorem dX2_lineOfCoat_98 : decode cX2_lineOfCoat 98 = .ok (.getfield 66, 3) := by decide +kernel
theorem dX2_lineOfCoat_101 : decode cX2_lineOfCoat 101 = .ok (.ifCond .ne 161, 3) := by decide +kernel
theorem dX2_lineOfCoat_104 : decode cX2_lineOfCoat 104 = .ok (.aload_n 0, 1) := by decide +kernel
theorem dX2_lineOfCoat_105 : decode cX2_lineOfCoat 105 = .ok (.getfield 39, 3) := by decide +kernel
theorem dX2_lineOfCoat_108 : decode cX2_lineOfCoat 108 = .ok (.iconst 0, 1) := by decide +kernel
theorem dX2_lineOfCoat_109 : decode cX2_lineOfCoat 109 = .ok (.iaload, 1) := by decide +kernel
theorem dX2_lineOfCoat_110 : decode cX2_lineOfCoat 110 = .ok (.invokestatic 184, 3) := by decide +kernel
theorem dX2_lineOfCoat_113 : decode cX2_lineOfCoat 113 = .ok (.ifCond .eq 149, 3) := by decide +kernel
theorem dX2_lineOfCoat_116 : decode cX2_lineOfCoat 116 = .ok (.aload_n 0, 1) := by decide +kernel
theorem dX2_lineOfCoat_117 : decode cX2_lineOfCoat 117 = .ok (.getfield 39, 3) := by decide +kernel
theorem dX2_lineOfCoat_120 : decode cX2_lineOfCoat 120 = .ok (.iconst 1, 1) := by decide +kernel
theorem dX2_lineOfCoat_121 : decode cX2_lineOfCoat 121 = .ok (.iaload, 1) := by decide +kernel
theorem dX2_lineOfCoat_122 : decode cX2_lineOfCoat 122 = .ok (.invokestatic 184, 3) := by decide +kernel
theorem dX2_lineOfCoat_125 : decode cX2_lineOfCoat 125 = .ok (.ifCond .eq 137, 3) := by decide +kernel
theorem dX2_lineOfCoat_128 : decode cX2_lineOfCoat 128 = .ok (.aload_n 0, 1) := by decide +kernel
theorem dX2_lineOfCoat_129 : decode cX2_lineOfCoat 129 = .ok (.getfield 12, 3) := by decide +kernel
theorem dX2_lineOfCoat_132 : decode cX2_lineOfCoat 132 = .ok (.getfield 188, 3) := by decide +kernel
theorem dX2_lineOfCoat_135 : decode cX2_lineOfCoat 135 = .ok (.aload_n 0, 1) := by decide +kernel
theorem dX2_lineOfCoat_136 : decode cX2_lineOfCoat 136 = .ok (.getfield 39, 3) := by decide +kernel
theorem dX2_lineOfCoat_139 : decode cX2_lineOfCoat 139 = .ok (.iconst 0, 1) := by decide +kernel
theorem dX2_lineOfCoat_140 : decode cX2_lineOfCoat 140 = .ok (.iaload, 1) := by decide +kernel
theorem dX2_lineOfCoat_141 : decode cX2_lineOfCoat 141 = .ok (.dup2, 1) := by decide +kernel
theorem dX2_lineOfCoat_142 : decode cX2_lineOfCoat 142 = .ok (.iaload, 1) := by decide +kernel
theorem dX2_lineOfCoat_143 : decode cX2_lineOfCoat 143 = .ok (.iconst 1, 1) := by decide +kernel
theorem dX2_lineOfCoat_144 : decode cX2_lineOfCoat 144 = .ok (.aload_n 0, 1) := by decide +kernel
theorem dX2_lineOfCoat_145 : decode cX2_lineOfCoat 145 = .ok (.getfield 39, 3) := by decide +kernel
theorem dX2_lineOfCoat_148 : decode cX2_lineOfCoat 148 = .ok (.iconst 1, 1) := by decide +kernel
theorem dX2_lineOfCoat_149 : decode cX2_lineOfCoat 149 = .ok (.iaload, 1) := by decide +kernel
theorem dX2_lineOfCoat_150 : decode cX2_lineOfCoat 150 = .ok (.ishl, 1) := by decide +kernel
theorem dX2_lineOfCoat_151 : decode cX2_lineOfCoat 151 = .ok (.ior, 1) := by decide +kernel
theorem dX2_lineOfCoat_152 : decode cX2_lineOfCoat 152 = .ok (.iastore, 1) := by decide +kernel
theorem dX2_lineOfCoat_153 : decode cX2_lineOfCoat 153 = .ok (.aload_n 0, 1) := by decide +kernel
theorem dX2_lineOfCoat_154 : decode cX2_lineOfCoat 154 = .ok (.dup, 1) := by decide +kernel
theorem dX2_lineOfCoat_155 : decode cX2_lineOfCoat 155 = .ok (.getfield 63, 3) := by decide +kernel
theorem dX2_lineOfCoat_158 : decode cX2_lineOfCoat 158 = .ok (.iconst 1, 1) := by decide +kernel
theorem dX2_lineOfCoat_159 : decode cX2_lineOfCoat 159 = .ok (.aload_n 0, 1) := by decide +kernel
theorem dX2_lineOfCoat_160 : decode cX2_lineOfCoat 160 = .ok (.getfield 39, 3) := by decide +kernel
theorem dX2_lineOfCoat_163 : decode cX2_lineOfCoat 163 = .ok (.iconst 0, 1) := by decide +kernel
theorem dX2_lineOfCoat_164 : decode cX2_lineOfCoat 164 = .ok (.iaload, 1) := by decide +kernel
theorem dX2_lineOfCoat_165 : decode cX2_lineOfCoat 165 = .ok (.ishl, 1) := by decide +kernel
theorem dX2_lineOfCoat_166 : decode cX2_lineOfCoat 166 = .ok (.iconst 1, 1) := by decide +kernel
theorem dX2_lineOfCoat_167 : decode cX2_lineOfCoat 167 = .ok (.aload_n 0, 1) := by decide +kernel
theorem dX2_lineOfCoat_168 : decode cX2_lineOfCoat 168 = .ok (.getfield 39, 3) := by decide +kernel
theorem dX2_lineOfCoat_171 : decode cX2_lineOfCoat 171 = .ok (.iconst 1, 1) := by decide +kernel
theorem dX2_lineOfCoat_172 : decode cX2_lineOfCoat 172 = .ok (.iaload, 1) := by decide +kernel
theorem dX2_lineOfCoat_173 : decode cX2_lineOfCoat 173 = .ok (.ishl, 1) := by decide +kernel
theorem dX2_lineOfCoat_174 : decode cX2_lineOfCoat 174 = .ok (.ior, 1) := by decide +kernel
theorem dX2_lineOfCoat_175 : decode cX2_lineOfCoat 175 = .ok (.ior, 1) := by decide +kernel
theorem dX2_lineOfCoat_176 : decode cX2_lineOfCoat 176 = .ok (.putfield 63, 3) := by decide +kernel
theorem dX2_lineOfCoat_179 : decode cX2_lineOfCoat 179 = .ok (.goto 83, 3) := by decide +kernel
theorem dX2_lineOfCoat_182 : decode cX2_lineOfCoat 182 = .ok (.aload_n 0, 1) := by decide +kernel
theorem dX2_lineOfCoat_183 : decode cX2_lineOfCoat 183 = .ok (.iconst 0, 1) := by decide +kernel
theorem dX2_lineOfCoat_184 : decode cX2_lineOfCoat 184 = .ok (.iconst 0, 1) := by decide +kernel
theorem dX2_lineOfCoat_185 : decode cX2_lineOfCoat 185 = .ok (.bipush 99, 2) := by decide +kernel
theorem dX2_lineOfCoat_187 : decode cX2_lineOfCoat 187 = .ok (.invokevirtual 175, 3) := by decide +kernel
theorem dX2_lineOfCoat_190 : decode cX2_lineOfCoat 190 = .ok (.aload_n 0, 1) := by decide +kernel
theorem dX2_lineOfCoat_191 : decode cX2_lineOfCoat 191 = .ok (.iconst 1, 1) := by decide +kernel
theorem dX2_lineOfCoat_192 : decode cX2_lineOfCoat 192 = .ok (.iconst 0, 1) := by decide +kernel
theorem dX2_lineOfCoat_193 : decode cX2_lineOfCoat 193 = .ok (.bipush 9, 2) := by decide +kernel
theorem dX2_lineOfCoat_195 : decode cX2_lineOfCoat 195 = .ok (.invokevirtual 175, 3) := by decide +kernel
theorem dX2_lineOfCoat_198 : decode cX2_lineOfCoat 198 = .ok (.aload_n 0, 1) := by decide +kernel
theorem dX2_lineOfCoat_199 : decode cX2_lineOfCoat 199 = .ok (.getfield 39, 3) := by decide +kernel
theorem dX2_lineOfCoat_202 : decode cX2_lineOfCoat 202 = .ok (.iconst 0, 1) := by decide +kernel
theorem dX2_lineOfCoat_203 : decode cX2_lineOfCoat 203 = .ok (.iaload, 1) := by decide +kernel
theorem dX2_lineOfCoat_204 : decode cX2_lineOfCoat 204 = .ok (.ifCond .lt 58, 3) := by decide +kernel
theorem dX2_lineOfCoat_207 : decode cX2_lineOfCoat 207 = .ok (.aload_n 0, 1) := by decide +kernel
theorem dX2_lineOfCoat_208 : decode cX2_lineOfCoat 208 = .ok (.getfield 39, 3) := by decide +kernel
theorem dX2_lineOfCoat_211 : decode cX2_lineOfCoat 211 = .ok (.iconst 0, 1) := by decide +kernel
theorem dX2_lineOfCoat_212 : decode cX2_lineOfCoat 212 = .ok (.iaload, 1) := by decide +kernel
theorem dX2_lineOfCoat_213 : decode cX2_lineOfCoat 213 = .ok (.bipush 100, 2) := by decide +kernel
theorem dX2_lineOfCoat_215 : decode cX2_lineOfCoat 215 = .ok (.if_icmp .ge 47, 3) := by decide +kernel
theorem dX2_lineOfCoat_218 : decode cX2_lineOfCoat 218 = .ok (.aload_n 0, 1) := by decide +kernel
theorem dX2_lineOfCoat_219 : decode cX2_lineOfCoat 219 = .ok (.getfield 12, 3) := by decide +kernel
theorem dX2_lineOfCoat_222 : decode cX2_lineOfCoat 222 = .ok (.getfield 191, 3) := by decide +kernel
theorem dX2_lineOfCoat_225 : decode cX2_lineOfCoat 225 = .ok (.aload_n 0, 1) := by decide +kernel
theorem dX2_lineOfCoat_226 : decode cX2_lineOfCoat 226 = .ok (.getfield 39, 3) := by decide +kernel
theorem dX2_lineOfCoat_229 : decode cX2_lineOfCoat 229 = .ok (.iconst 0, 1) := by decide +kernel
theorem dX2_lineOfCoat_230 : decode cX2_lineOfCoat 230 = .ok (.iaload, 1) := by decide +kernel
theorem dX2_lineOfCoat_231 : decode cX2_lineOfCoat 231 = .ok (.aload_n 0, 1) := by decide +kernel
theorem dX2_lineOfCoat_232 : decode cX2_lineOfCoat 232 = .ok (.getfield 39, 3) := by decide +kernel
theorem dX2_lineOfCoat_235 : decode cX2_lineOfCoat 235 = .ok (.iconst 1, 1) := by decide +kernel
theorem dX2_lineOfCoat_236 : decode cX2_lineOfCoat 236 = .ok (.iaload, 1) := by decide +kernel
theorem dX2_lineOfCoat_237 : decode cX2_lineOfCoat 237 = .ok (.iastore, 1) := by decide +kernel
theorem dX2_lineOfCoat_238 : decode cX2_lineOfCoat 238 = .ok (.goto 24, 3) := by decide +kernel
theorem dX2_lineOfCoat_241 : decode cX2_lineOfCoat 241 = .ok (.aload_n 0, 1) := by decide +kernel
theorem dX2_lineOfCoat_242 : decode cX2_lineOfCoat 242 = .ok (.iconst 0, 1) := by decide +kernel
theorem dX2_lineOfCoat_243 : decode cX2_lineOfCoat 243 = .ok (.iconst 1, 1) := by decide +kernel
theorem dX2_lineOfCoat_244 : decode cX2_lineOfCoat 244 = .ok (.bipush 9, 2) := by decide +kernel
theorem dX2_lineOfCoat_246 : decode cX2_lineOfCoat 246 = .ok (.invokevirtual 175, 3) := by decide +kernel
theorem dX2_lineOfCoat_249 : decode cX2_lineOfCoat 249 = .ok (.aload_n 0, 1) := by decide +kernel
theorem dX2_lineOfCoat_250 : decode cX2_lineOfCoat 250 = .ok (.getfield 12, 3) := by decide +kernel
theorem dX2_lineOfCoat_253 : decode cX2_lineOfCoat 253 = .ok (.aload_n 0, 1) := by decide +kernel
theorem dX2_lineOfCoat_254 : decode cX2_lineOfCoat 254 = .ok (.getfield 39, 3) := by decide +kernel
theorem dX2_lineOfCoat_257 : decode cX2_lineOfCoat 257 = .ok (.iconst 0, 1) := by decide +kernel
theorem dX2_lineOfCoat_258 : decode cX2_lineOfCoat 258 = .ok (.iaload, 1) := by decide +kernel
theorem dX2_lineOfCoat_259 : decode cX2_lineOfCoat 259 = .ok (.putfield 194, 3) := by decide +kernel
theorem dX2_lineOfCoat_262 : decode cX2_lineOfCoat 262 = .ok (.return_, 1) := by decide +kernel
theorem dX2_lineOfLife_0 : decode cX2_lineOfLife 0 = .ok (.aload_n 0, 1) := by decide +kernel
theorem dX2_lineOfLife_1 : decode cX2_lineOfLife 1 = .ok (.aload_n 0, 1) := by decide +kernel
theorem dX2_lineOfLife_2 : decode cX2_lineOfLife 2 = .ok (.getfield 21, 3) := by decide +kernel
theorem dX2_lineOfLife_5 : decode cX2_lineOfLife 5 = .ok (.getfield 75, 3) := by decide +kernel
theorem dX2_lineOfLife_8 : decode cX2_lineOfLife 8 = .ok (.bipush 40, 2) := by decide +kernel
theorem dX2_lineOfLife_10 : decode cX2_lineOfLife 10 = .ok (.iload_n 2, 1) := by decide +kernel
theorem dX2_lineOfLife_11 : decode cX2_lineOfLife 11 = .ok (.invokevirtual 171, 3) := by decide +kernel
theorem dX2_lineOfLife_14 : decode cX2_lineOfLife 14 = .ok (.iload_n 1, 1) := by decide +kernel
theorem dX2_lineOfLife_15 : decode cX2_lineOfLife 15 = .ok (.iconst 5, 1) := by decide +kernel
theorem dX2_lineOfLife_16 : decode cX2_lineOfLife 16 = .ok (.if_icmp .ne 13, 3) := by decide +kernel
theorem dX2_lineOfLife_19 : decode cX2_lineOfLife 19 = .ok (.aload_n 0, 1) := by decide +kernel
theorem dX2_lineOfLife_20 : decode cX2_lineOfLife 20 = .ok (.getfield 21, 3) := by decide +kernel
theorem dX2_lineOfLife_23 : decode cX2_lineOfLife 23 = .ok (.iload_n 1, 1) := by decide +kernel
theorem dX2_lineOfLife_24 : decode cX2_lineOfLife 24 = .ok (.iconst (-1), 1) := by decide +kernel
theorem dX2_lineOfLife_25 : decode cX2_lineOfLife 25 = .ok (.invokevirtual 196, 3) := by decide +kernel
theorem dX2_lineOfLife_28 : decode cX2_lineOfLife 28 = .ok (.return_, 1) := by decide +kernel
theorem dX2_lineOfLife_29 : decode cX2_lineOfLife 29 = .ok (.iload_n 1, 1) := by decide +kernel
theorem dX2_lineOfLife_30 : decode cX2_lineOfLife 30 = .ok (.iconst 3, 1) := by decide +kernel
theorem dX2_lineOfLife_31 : decode cX2_lineOfLife 31 = .ok (.if_icmp .eq 8, 3) := by decide +kernel
theorem dX2_lineOfLife_34 : decode cX2_lineOfLife 34 = .ok (.iload_n 1, 1) := by decide +kernel
theorem dX2_lineOfLife_35 : decode cX2_lineOfLife 35 = .ok (.iconst 4, 1) := by decide +kernel
theorem dX2_lineOfLife_36 : decode cX2_lineOfLife 36 = .ok (.if_icmp .ne 14, 3) := by decide +kernel
theorem dX2_lineOfLife_39 : decode cX2_lineOfLife 39 = .ok (.aload_n 0, 1) := by decide +kernel
theorem dX2_lineOfLife_40 : decode cX2_lineOfLife 40 = .ok (.iconst 0, 1) := by decide +kernel
theorem dX2_lineOfLife_41 : decode cX2_lineOfLife 41 = .ok (.iconst 1, 1) := by decide +kernel
theorem dX2_lineOfLife_42 : decode cX2_lineOfLife 42 = .ok (.bipush 9, 2) := by decide +kernel
theorem dX2_lineOfLife_44 : decode cX2_lineOfLife 44 = .ok (.invokevirtual 175, 3) := by decide +kernel
theorem dX2_lineOfLife_47 : decode cX2_lineOfLife 47 = .ok (.goto 11, 3) := by decide +kernel
theorem dX2_lineOfLife_50 : decode cX2_lineOfLife 50 = .ok (.aload_n 0, 1) := by decide +kernel
theorem dX2_lineOfLife_51 : decode cX2_lineOfLife 51 = .ok (.iconst 0, 1) := by decide +kernel
theorem dX2_lineOfLife_52 : decode cX2_lineOfLife 52 = .ok (.iconst 0, 1) := by decide +kernel
theorem dX2_lineOfLife_53 : decode cX2_lineOfLife 53 = .ok (.bipush 8, 2) := by decide +kernel
theorem dX2_lineOfLife_55 : decode cX2_lineOfLife 55 = .ok (.invokevirtual 175, 3) := by decide +kernel
theorem dX2_lineOfLife_58 : decode cX2_lineOfLife 58 = .ok (.aload_n 0, 1) := by decide +kernel
theorem dX2_lineOfLife_59 : decode cX2_lineOfLife 59 = .ok (.getfield 21, 3) := by decide +kernel
theorem dX2_lineOfLife_62 : decode cX2_lineOfLife 62 = .ok (.iload_n 1, 1) := by decide +kernel
theorem dX2_lineOfLife_63 : decode cX2_lineOfLife 63 = .ok (.aload_n 0, 1) := by decide +kernel
theorem dX2_lineOfLife_64 : decode cX2_lineOfLife 64 = .ok (.getfield 39, 3) := by decide +kernel
theorem dX2_lineOfLife_67 : decode cX2_lineOfLife 67 = .ok (.iconst 0, 1) := by decide +kernel
theorem dX2_lineOfLife_68 : decode cX2_lineOfLife 68 = .ok (.iaload, 1) := by decide +kernel
theorem dX2_lineOfLife_69 : decode cX2_lineOfLife 69 = .ok (.invokevirtual 196, 3) := by decide +kernel
theorem dX2_lineOfLife_72 : decode cX2_lineOfLife 72 = .ok (.return_, 1) := by decide +kernel
theorem dX2_lineOfTown_0 : decode cX2_lineOfTown 0 = .ok (.iload_n 1, 1) := by decide +kernel
theorem dX2_lineOfTown_1 : decode cX2_lineOfTown 1 = .ok (.tableswitch 204 0 3 #[31, 55, 79, 124], 31) := by decide +kernel
theorem dX2_lineOfTown_32 : decode cX2_lineOfTown 32 = .ok (.aload_n 0, 1) := by decide +kernel
theorem dX2_lineOfTown_33 : decode cX2_lineOfTown 33 = .ok (.iconst 0, 1) := by decide +kernel
theorem dX2_lineOfTown_34 : decode cX2_lineOfTown 34 = .ok (.iconst 1, 1) := by decide +kernel
theorem dX2_lineOfTown_35 : decode cX2_lineOfTown 35 = .ok (.bipush 9, 2) := by decide +kernel
theorem dX2_lineOfTown_37 : decode cX2_lineOfTown 37 = .ok (.invokevirtual 175, 3) := by decide +kernel
theorem dX2_lineOfTown_40 : decode cX2_lineOfTown 40 = .ok (.aload_n 0, 1) := by decide +kernel
theorem dX2_lineOfTown_41 : decode cX2_lineOfTown 41 = .ok (.getfield 28, 3) := by decide +kernel
theorem dX2_lineOfTown_44 : decode cX2_lineOfTown 44 = .ok (.aload_n 0, 1) := by decide +kernel
theorem dX2_lineOfTown_45 : decode cX2_lineOfTown 45 = .ok (.getfield 39, 3) := by decide +kernel
theorem dX2_lineOfTown_48 : decode cX2_lineOfTown 48 = .ok (.iconst 0, 1) := by decide +kernel
theorem dX2_lineOfTown_49 : decode cX2_lineOfTown 49 = .ok (.iaload, 1) := by decide +kernel
theorem dX2_lineOfTown_50 : decode cX2_lineOfTown 50 = .ok (.putfield 199, 3) := by decide +kernel
theorem dX2_lineOfTown_53 : decode cX2_lineOfTown 53 = .ok (.goto 257, 3) := by decide +kernel
theorem dX2_lineOfTown_56 : decode cX2_lineOfTown 56 = .ok (.aload_n 0, 1) := by decide +kernel
theorem dX2_lineOfTown_57 : decode cX2_lineOfTown 57 = .ok (.iconst 0, 1) := by decide +kernel
theorem dX2_lineOfTown_58 : decode cX2_lineOfTown 58 = .ok (.iconst 1, 1) := by decide +kernel
theorem dX2_lineOfTown_59 : decode cX2_lineOfTown 59 = .ok (.bipush 9, 2) := by decide +kernel
theorem dX2_lineOfTown_61 : decode cX2_lineOfTown 61 = .ok (.invokevirtual 175, 3) := by decide +kernel
theorem dX2_lineOfTown_64 : decode cX2_lineOfTown 64 = .ok (.aload_n 0, 1) := by decide +kernel
theorem dX2_lineOfTown_65 : decode cX2_lineOfTown 65 = .ok (.getfield 28, 3) := by decide +kernel
theorem dX2_lineOfTown_68 : decode cX2_lineOfTown 68 = .ok (.aload_n 0, 1) := by decide +kernel
theorem dX2_lineOfTown_69 : decode cX2_lineOfTown 69 = .ok (.getfield 39, 3) := by decide +kernel
theorem dX2_lineOfTown_72 : decode cX2_lineOfTown 72 = .ok (.iconst 0, 1) := by decide +kernel
theorem dX2_lineOfTown_73 : decode cX2_lineOfTown 73 = .ok (.iaload, 1) := by decide +kernel
theorem dX2_lineOfTown_74 : decode cX2_lineOfTown 74 = .ok (.putfield 201, 3) := by decide +kernel
theorem dX2_lineOfTown_77 : decode cX2_lineOfTown 77 = .ok (.goto 233, 3) := by decide +kernel
theorem dX2_lineOfTown_80 : decode cX2_lineOfTown 80 = .ok (.aload_n 0, 1) := by decide +kernel
theorem dX2_lineOfTown_81 : decode cX2_lineOfTown 81 = .ok (.iconst 0, 1) := by decide +kernel
theorem dX2_lineOfTown_82 : decode cX2_lineOfTown 82 = .ok (.iconst 0, 1) := by decide +kernel
theorem dX2_lineOfTown_83 : decode cX2_lineOfTown 83 = .ok (.bipush 9, 2) := by decide +kernel
theorem dX2_lineOfTown_85 : decode cX2_lineOfTown 85 = .ok (.invokevirtual 175, 3) := by decide +kernel
theorem dX2_lineOfTown_88 : decode cX2_lineOfTown 88 = .ok (.aload_n 0, 1) := by decide +kernel
theorem dX2_lineOfTown_89 : decode cX2_lineOfTown 89 = .ok (.iconst 1, 1) := by decide +kernel
theorem dX2_lineOfTown_90 : decode cX2_lineOfTown 90 = .ok (.iconst 0, 1) := by decide +kernel
theorem dX2_lineOfTown_91 : decode cX2_lineOfTown 91 = .ok (.bipush 9, 2) := by decide +kernel
theorem dX2_lineOfTown_93 : decode cX2_lineOfTown 93 = .ok (.invokevirtual 175, 3) := by decide +kernel
theorem dX2_lineOfTown_96 : decode cX2_lineOfTown 96 = .ok (.aload_n 0, 1) := by decide +kernel
theorem dX2_lineOfTown_97 : decode cX2_lineOfTown 97 = .ok (.getfield 28, 3) := by decide +kernel
theorem dX2_lineOfTown_100 : decode cX2_lineOfTown 100 = .ok (.aload_n 0, 1) := by decide +kernel
theorem dX2_lineOfTown_101 : decode cX2_lineOfTown 101 = .ok (.getfield 39, 3) := by decide +kernel
theorem dX2_lineOfTown_104 : decode cX2_lineOfTown 104 = .ok (.iconst 0, 1) := by decide +kernel
theorem dX2_lineOfTown_105 : decode cX2_lineOfTown 105 = .ok (.iaload, 1) := by decide +kernel
theorem dX2_lineOfTown_106 : decode cX2_lineOfTown 106 = .ok (.putfield 203, 3) := by decide +kernel
theorem dX2_lineOfTown_109 : decode cX2_lineOfTown 109 = .ok (.aload_n 0, 1) := by decide +kernel
theorem dX2_lineOfTown_110 : decode cX2_lineOfTown 110 = .ok (.getfield 28, 3) := by decide +kernel
theorem dX2_lineOfTown_113 : decode cX2_lineOfTown 113 = .ok (.aload_n 0, 1) := by decide +kernel
theorem dX2_lineOfTown_114 : decode cX2_lineOfTown 114 = .ok (.getfield 39, 3) := by decide +kernel
theorem dX2_lineOfTown_117 : decode cX2_lineOfTown 117 = .ok (.iconst 1, 1) := by decide +kernel
theorem dX2_lineOfTown_118 : decode cX2_lineOfTown 118 = .ok (.iaload, 1) := by decide +kernel
theorem dX2_lineOfTown_119 : decode cX2_lineOfTown 119 = .ok (.putfield 206, 3) := by decide +kernel
theorem dX2_lineOfTown_122 : decode cX2_lineOfTown 122 = .ok (.goto 188, 3) := by decide +kernel
theorem dX2_lineOfTown_125 : decode cX2_lineOfTown 125 = .ok (.aload_n 0, 1) := by decide +kernel
theorem dX2_lineOfTown_126 : decode cX2_lineOfTown 126 = .ok (.aload_n 0, 1) := by decide +kernel
theorem dX2_lineOfTown_127 : decode cX2_lineOfTown 127 = .ok (.getfield 28, 3) := by decide +kernel
theorem dX2_lineOfTown_130 : decode cX2_lineOfTown 130 = .ok (.getfield 95, 3) := by decide +kernel
theorem dX2_lineOfTown_133 : decode cX2_lineOfTown 133 = .ok (.bipush 6, 2) := by decide +kernel
theorem dX2_lineOfTown_135 : decode cX2_lineOfTown 135 = .ok (.iload_n 2, 1) := by decide +kernel
theorem dX2_lineOfTown_136 : decode cX2_lineOfTown 136 = .ok (.invokevirtual 171, 3) := by decide +kernel
theorem dX2_lineOfTown_139 : decode cX2_lineOfTown 139 = .ok (.aload_n 0, 1) := by decide +kernel
theorem dX2_lineOfTown_140 : decode cX2_lineOfTown 140 = .ok (.iconst 0, 1) := by decide +kernel
theorem dX2_lineOfTown_141 : decode cX2_lineOfTown 141 = .ok (.iconst 0, 1) := by decide +kernel
theorem dX2_lineOfTown_142 : decode cX2_lineOfTown 142 = .ok (.bipush 9, 2) := by decide +kernel
theorem dX2_lineOfTown_144 : decode cX2_lineOfTown 144 = .ok (.invokevirtual 175, 3) := by decide +kernel
theorem dX2_lineOfTown_147 : decode cX2_lineOfTown 147 = .ok (.aload_n 0, 1) := by decide +kernel
theorem dX2_lineOfTown_148 : decode cX2_lineOfTown 148 = .ok (.iconst 1, 1) := by decide +kernel
theorem dX2_lineOfTown_149 : decode cX2_lineOfTown 149 = .ok (.iconst 0, 1) := by decide +kernel
theorem dX2_lineOfTown_150 : decode cX2_lineOfTown 150 = .ok (.bipush 9, 2) := by decide +kernel
theorem dX2_lineOfTown_152 : decode cX2_lineOfTown 152 = .ok (.invokevirtual 175, 3) := by decide +kernel
theorem dX2_lineOfTown_155 : decode cX2_lineOfTown 155 = .ok (.aload_n 0, 1) := by decide +kernel
theorem dX2_lineOfTown_156 : decode cX2_lineOfTown 156 = .ok (.iconst 2, 1) := by decide +kernel
theorem dX2_lineOfTown_157 : decode cX2_lineOfTown 157 = .ok (.iconst 1, 1) := by decide +kernel
theorem dX2_lineOfTown_158 : decode cX2_lineOfTown 158 = .ok (.bipush 30, 2) := by decide +kernel
theorem dX2_lineOfTown_160 : decode cX2_lineOfTown 160 = .ok (.invokevirtual 175, 3) := by decide +kernel
theorem dX2_lineOfTown_163 : decode cX2_lineOfTown 163 = .ok (.aload_n 0, 1) := by decide +kernel
theorem dX2_lineOfTown_164 : decode cX2_lineOfTown 164 = .ok (.iconst 3, 1) := by decide +kernel
theorem dX2_lineOfTown_165 : decode cX2_lineOfTown 165 = .ok (.iconst 0, 1) := by decide +kernel
theorem dX2_lineOfTown_166 : decode cX2_lineOfTown 166 = .ok (.bipush 99, 2) := by decide +kernel
theorem dX2_lineOfTown_168 : decode cX2_lineOfTown 168 = .ok (.invokevirtual 175, 3) := by decide +kernel
theorem dX2_lineOfTown_171 : decode cX2_lineOfTown 171 = .ok (.aload_n 0, 1) := by decide +kernel
theorem dX2_lineOfTown_172 : decode cX2_lineOfTown 172 = .ok (.getfield 28, 3) := by decide +kernel
theorem dX2_lineOfTown_175 : decode cX2_lineOfTown 175 = .ok (.aload_n 0, 1) := by decide +kernel
theorem dX2_lineOfTown_176 : decode cX2_lineOfTown 176 = .ok (.getfield 39, 3) := by decide +kernel
theorem dX2_lineOfTown_179 : decode cX2_lineOfTown 179 = .ok (.iconst 0, 1) := by decide +kernel
theorem dX2_lineOfTown_180 : decode cX2_lineOfTown 180 = .ok (.iaload, 1) := by decide +kernel
theorem dX2_lineOfTown_181 : decode cX2_lineOfTown 181 = .ok (.aload_n 0, 1) := by decide +kernel
theorem dX2_lineOfTown_182 : decode cX2_lineOfTown 182 = .ok (.getfield 39, 3) := by decide +kernel
theorem dX2_lineOfTown_185 : decode cX2_lineOfTown 185 = .ok (.iconst 1, 1) := by decide +kernel
theorem dX2_lineOfTown_186 : decode cX2_lineOfTown 186 = .ok (.iaload, 1) := by decide +kernel
theorem dX2_lineOfTown_187 : decode cX2_lineOfTown 187 = .ok (.aload_n 0, 1) := by decide +kernel
theorem dX2_lineOfTown_188 : decode cX2_lineOfTown 188 = .ok (.getfield 39, 3) := by decide +kernel
theorem dX2_lineOfTown_191 : decode cX2_lineOfTown 191 = .ok (.iconst 2, 1) := by decide +kernel
theorem dX2_lineOfTown_192 : decode cX2_lineOfTown 192 = .ok (.iaload, 1) := by decide +kernel
theorem dX2_lineOfTown_193 : decode cX2_lineOfTown 193 = .ok (.aload_n 0, 1) := by decide +kernel
theorem dX2_lineOfTown_194 : decode cX2_lineOfTown 194 = .ok (.getfield 39, 3) := by decide +kernel
theorem dX2_lineOfTown_197 : decode cX2_lineOfTown 197 = .ok (.iconst 3, 1) := by decide +kernel
theorem dX2_lineOfTown_198 : decode cX2_lineOfTown 198 = .ok (.iaload, 1) := by decide +kernel
theorem dX2_lineOfTown_199 : decode cX2_lineOfTown 199 = .ok (.invokevirtual 209, 3) := by decide +kernel
theorem dX2_lineOfTown_202 : decode cX2_lineOfTown 202 = .ok (.goto 108, 3) := by decide +kernel
theorem dX2_lineOfTown_205 : decode cX2_lineOfTown 205 = .ok (.aload_n 0, 1) := by decide +kernel
theorem dX2_lineOfTown_206 : decode cX2_lineOfTown 206 = .ok (.iconst 0, 1) := by decide +kernel
theorem dX2_lineOfTown_207 : decode cX2_lineOfTown 207 = .ok (.iconst 0, 1) := by decide +kernel
theorem dX2_lineOfTown_208 : decode cX2_lineOfTown 208 = .ok (.iconst 5, 1) := by decide +kernel
theorem dX2_lineOfTown_209 : decode cX2_lineOfTown 209 = .ok (.invokevirtual 175, 3) := by decide +kernel
theorem dX2_lineOfTown_212 : decode cX2_lineOfTown 212 = .ok (.aload_n 0, 1) := by decide +kernel
theorem dX2_lineOfTown_213 : decode cX2_lineOfTown 213 = .ok (.iconst 1, 1) := by decide +kernel
theorem dX2_lineOfTown_214 : decode cX2_lineOfTown 214 = .ok (.iconst 0, 1) := by decide +kernel
theorem dX2_lineOfTown_215 : decode cX2_lineOfTown 215 = .ok (.bipush 99, 2) := by decide +kernel
theorem dX2_lineOfTown_217 : decode cX2_lineOfTown 217 = .ok (.invokevirtual 175, 3) := by decide +kernel
theorem dX2_lineOfTown_220 : decode cX2_lineOfTown 220 = .ok (.aload_n 0, 1) := by decide +kernel
theorem dX2_lineOfTown_221 : decode cX2_lineOfTown 221 = .ok (.iconst 2, 1) := by decide +kernel
theorem dX2_lineOfTown_222 : decode cX2_lineOfTown 222 = .ok (.aload_n 0, 1) := by decide +kernel
theorem dX2_lineOfTown_223 : decode cX2_lineOfTown 223 = .ok (.getfield 39, 3) := by decide +kernel
theorem dX2_lineOfTown_226 : decode cX2_lineOfTown 226 = .ok (.iconst 1, 1) := by decide +kernel
theorem dX2_lineOfTown_227 : decode cX2_lineOfTown 227 = .ok (.iaload, 1) := by decide +kernel
theorem dX2_lineOfTown_228 : decode cX2_lineOfTown 228 = .ok (.bipush 99, 2) := by decide +kernel
theorem dX2_lineOfTown_230 : decode cX2_lineOfTown 230 = .ok (.invokevirtual 175, 3) := by decide +kernel
theorem dX2_lineOfTown_233 : decode cX2_lineOfTown 233 = .ok (.aload_n 0, 1) := by decide +kernel
theorem dX2_lineOfTown_234 : decode cX2_lineOfTown 234 = .ok (.getfield 39, 3) := by decide +kernel
theorem dX2_lineOfTown_237 : decode cX2_lineOfTown 237 = .ok (.iconst 0, 1) := by decide +kernel
theorem dX2_lineOfTown_238 : decode cX2_lineOfTown 238 = .ok (.iaload, 1) := by decide +kernel
theorem dX2_lineOfTown_239 : decode cX2_lineOfTown 239 = .ok (.ifCond .lt 71, 3) := by decide +kernel
theorem dX2_lineOfTown_242 : decode cX2_lineOfTown 242 = .ok (.aload_n 0, 1) := by decide +kernel
theorem dX2_lineOfTown_243 : decode cX2_lineOfTown 243 = .ok (.getfield 39, 3) := by decide +kernel
theorem dX2_lineOfTown_246 : decode cX2_lineOfTown 246 = .ok (.iconst 0, 1) := by decide +kernel
theorem dX2_lineOfTown_247 : decode cX2_lineOfTown 247 = .ok (.iaload, 1) := by decide +kernel
theorem dX2_lineOfTown_248 : decode cX2_lineOfTown 248 = .ok (.bipush 6, 2) := by decide +kernel
theorem dX2_lineOfTown_250 : decode cX2_lineOfTown 250 = .ok (.if_icmp .ge 60, 3) := by decide +kernel
theorem dX2_lineOfTown_253 : decode cX2_lineOfTown 253 = .ok (.aload_n 0, 1) := by decide +kernel
theorem dX2_lineOfTown_254 : decode cX2_lineOfTown 254 = .ok (.getfield 28, 3) := by decide +kernel
theorem dX2_lineOfTown_257 : decode cX2_lineOfTown 257 = .ok (.getfield 213, 3) := by decide +kernel
theorem dX2_lineOfTown_260 : decode cX2_lineOfTown 260 = .ok (.aload_n 0, 1) := by decide +kernel
theorem dX2_lineOfTown_261 : decode cX2_lineOfTown 261 = .ok (.getfield 39, 3) := by decide +kernel
theorem dX2_lineOfTown_264 : decode cX2_lineOfTown 264 = .ok (.iconst 0, 1) := by decide +kernel
theorem dX2_lineOfTown_265 : decode cX2_lineOfTown 265 = .ok (.iaload, 1) := by decide +kernel
theorem dX2_lineOfTown_266 : decode cX2_lineOfTown 266 = .ok (.aload_n 0, 1) := by decide +kernel
theorem dX2_lineOfTown_267 : decode cX2_lineOfTown 267 = .ok (.getfield 39, 3) := by decide +kernel
theorem dX2_lineOfTown_270 : decode cX2_lineOfTown 270 = .ok (.iconst 1, 1) := by decide +kernel
theorem dX2_lineOfTown_271 : decode cX2_lineOfTown 271 = .ok (.iaload, 1) := by decide +kernel
theorem dX2_lineOfTown_272 : decode cX2_lineOfTown 272 = .ok (.iastore, 1) := by decide +kernel
theorem dX2_lineOfTown_273 : decode cX2_lineOfTown 273 = .ok (.aload_n 0, 1) := by decide +kernel
theorem dX2_lineOfTown_274 : decode cX2_lineOfTown 274 = .ok (.getfield 28, 3) := by decide +kernel
theorem dX2_lineOfTown_277 : decode cX2_lineOfTown 277 = .ok (.getfield 216, 3) := by decide +kernel
theorem dX2_lineOfTown_280 : decode cX2_lineOfTown 280 = .ok (.aload_n 0, 1) := by decide +kernel
theorem dX2_lineOfTown_281 : decode cX2_lineOfTown 281 = .ok (.getfield 39, 3) := by decide +kernel
theorem dX2_lineOfTown_284 : decode cX2_lineOfTown 284 = .ok (.iconst 0, 1) := by decide +kernel
theorem dX2_lineOfTown_285 : decode cX2_lineOfTown 285 = .ok (.iaload, 1) := by decide +kernel
theorem dX2_lineOfTown_286 : decode cX2_lineOfTown 286 = .ok (.aload_n 0, 1) := by decide +kernel
theorem dX2_lineOfTown_287 : decode cX2_lineOfTown 287 = .ok (.getfield 39, 3) := by decide +kernel
theorem dX2_lineOfTown_290 : decode cX2_lineOfTown 290 = .ok (.iconst 2, 1) := by decide +kernel
theorem dX2_lineOfTown_291 : decode cX2_lineOfTown 291 = .ok (.iaload, 1) := by decide +kernel
theorem dX2_lineOfTown_292 : decode cX2_lineOfTown 292 = .ok (.iastore, 1) := by decide +kernel
theorem dX2_lineOfTown_293 : decode cX2_lineOfTown 293 = .ok (.aload_n 0, 1) := by decide +kernel
theorem dX2_lineOfTown_294 : decode cX2_lineOfTown 294 = .ok (.dup, 1) := by decide +kernel
theorem dX2_lineOfTown_295 : decode cX2_lineOfTown 295 = .ok (.getfield 63, 3) := by decide +kernel
theorem dX2_lineOfTown_298 : decode cX2_lineOfTown 298 = .ok (.iconst 1, 1) := by decide +kernel
theorem dX2_lineOfTown_299 : decode cX2_lineOfTown 299 = .ok (.aload_n 0, 1) := by decide +kernel
theorem dX2_lineOfTown_300 : decode cX2_lineOfTown 300 = .ok (.getfield 39, 3) := by decide +kernel
theorem dX2_lineOfTown_303 : decode cX2_lineOfTown 303 = .ok (.iconst 0, 1) := by decide +kernel
theorem dX2_lineOfTown_304 : decode cX2_lineOfTown 304 = .ok (.iaload, 1) := by decide +kernel
theorem dX2_lineOfTown_305 : decode cX2_lineOfTown 305 = .ok (.ishl, 1) := by decide +kernel
theorem dX2_lineOfTown_306 : decode cX2_lineOfTown 306 = .ok (.ior, 1) := by decide +kernel
theorem dX2_lineOfTown_307 : decode cX2_lineOfTown 307 = .ok (.putfield 63, 3) := by decide +kernel
theorem dX2_lineOfTown_310 : decode cX2_lineOfTown 310 = .ok (.return_, 1) := by decide +kernel
theorem dX2_lineOfSight_0 : decode cX2_lineOfSight 0 = .ok (.aload_n 0, 1) := by decide +kernel
theorem dX2_lineOfSight_1 : decode cX2_lineOfSight 1 = .ok (.aload_n 0, 1) := by decide +kernel
theorem dX2_lineOfSight_2 : decode cX2_lineOfSight 2 = .ok (.getfield 35, 3) := by decide +kernel
theorem dX2_lineOfSight_5 : decode cX2_lineOfSight 5 = .ok (.getfield 79, 3) := by decide +kernel
theorem dX2_lineOfSight_8 : decode cX2_lineOfSight 8 = .ok (.bipush 10, 2) := by decide +kernel
theorem dX2_lineOfSight_10 : decode cX2_lineOfSight 10 = .ok (.iload_n 2, 1) := by decide +kernel
theorem dX2_lineOfSight_11 : decode cX2_lineOfSight 11 = .ok (.invokevirtual 171, 3) := by decide +kernel
theorem dX2_lineOfSight_14 : decode cX2_lineOfSight 14 = .ok (.iload_n 1, 1) := by decide +kernel
theorem dX2_lineOfSight_15 : decode cX2_lineOfSight 15 = .ok (.ifCond .ne 10, 3) := by decide +kernel
theorem dX2_lineOfSight_18 : decode cX2_lineOfSight 18 = .ok (.aload_n 0, 1) := by decide +kernel
theorem dX2_lineOfSight_19 : decode cX2_lineOfSight 19 = .ok (.invokevirtual 181, 3) := by decide +kernel
theorem dX2_lineOfSight_22 : decode cX2_lineOfSight 22 = .ok (.goto 19, 3) := by decide +kernel
theorem dX2_lineOfSight_25 : decode cX2_lineOfSight 25 = .ok (.aload_n 0, 1) := by decide +kernel
theorem dX2_lineOfSight_26 : decode cX2_lineOfSight 26 = .ok (.iconst 0, 1) := by decide +kernel
theorem dX2_lineOfSight_27 : decode cX2_lineOfSight 27 = .ok (.iconst 0, 1) := by decide +kernel
theorem dX2_lineOfSight_28 : decode cX2_lineOfSight 28 = .ok (.bipush 8, 2) := by decide +kernel
theorem dX2_lineOfSight_30 : decode cX2_lineOfSight 30 = .ok (.invokevirtual 175, 3) := by decide +kernel
theorem dX2_lineOfSight_33 : decode cX2_lineOfSight 33 = .ok (.aload_n 0, 1) := by decide +kernel
theorem dX2_lineOfSight_34 : decode cX2_lineOfSight 34 = .ok (.iconst 1, 1) := by decide +kernel
theorem dX2_lineOfSight_35 : decode cX2_lineOfSight 35 = .ok (.iconst 0, 1) := by decide +kernel
theorem dX2_lineOfSight_36 : decode cX2_lineOfSight 36 = .ok (.bipush 8, 2) := by decide +kernel
theorem dX2_lineOfSight_38 : decode cX2_lineOfSight 38 = .ok (.invokevirtual 175, 3) := by decide +kernel
theorem dX2_lineOfSight_41 : decode cX2_lineOfSight 41 = .ok (.aload_n 0, 1) := by decide +kernel
theorem dX2_lineOfSight_42 : decode cX2_lineOfSight 42 = .ok (.getfield 35, 3) := by decide +kernel
theorem dX2_lineOfSight_45 : decode cX2_lineOfSight 45 = .ok (.iload_n 1, 1) := by decide +kernel
theorem dX2_lineOfSight_46 : decode cX2_lineOfSight 46 = .ok (.aload_n 0, 1) := by decide +kernel
theorem dX2_lineOfSight_47 : decode cX2_lineOfSight 47 = .ok (.getfield 39, 3) := by decide +kernel
theorem dX2_lineOfSight_50 : decode cX2_lineOfSight 50 = .ok (.iconst 0, 1) := by decide +kernel
theorem dX2_lineOfSight_51 : decode cX2_lineOfSight 51 = .ok (.iaload, 1) := by decide +kernel
theorem dX2_lineOfSight_52 : decode cX2_lineOfSight 52 = .ok (.aload_n 0, 1) := by decide +kernel
theorem dX2_lineOfSight_53 : decode cX2_lineOfSight 53 = .ok (.getfield 39, 3) := by decide +kernel
theorem dX2_lineOfSight_56 : decode cX2_lineOfSight 56 = .ok (.iconst 1, 1) := by decide +kernel
theorem dX2_lineOfSight_57 : decode cX2_lineOfSight 57 = .ok (.iaload, 1) := by decide +kernel
theorem dX2_lineOfSight_58 : decode cX2_lineOfSight 58 = .ok (.invokevirtual 219, 3) := by decide +kernel
theorem dX2_lineOfSight_61 : decode cX2_lineOfSight 61 = .ok (.return_, 1) := by decide +kernel
theorem dX2_isSeam_0 : decode cX2_isSeam 0 = .ok (.iload_n 0, 1) := by decide +kernel
theorem dX2_isSeam_1 : decode cX2_isSeam 1 = .ok (.ifCond .lt 13, 3) := by decide +kernel
theorem dX2_isSeam_4 : decode cX2_isSeam 4 = .ok (.iload_n 0, 1) := by decide +kernel
theorem dX2_isSeam_5 : decode cX2_isSeam 5 = .ok (.bipush 9, 2) := by decide +kernel
theorem dX2_isSeam_7 : decode cX2_isSeam 7 = .ok (.if_icmp .ge 7, 3) := by decide +kernel
theorem dX2_isSeam_10 : decode cX2_isSeam 10 = .ok (.iconst 1, 1) := by decide +kernel
theorem dX2_isSeam_11 : decode cX2_isSeam 11 = .ok (.goto 4, 3) := by decide +kernel
theorem dX2_isSeam_14 : decode cX2_isSeam 14 = .ok (.iconst 0, 1) := by decide +kernel
theorem dX2_isSeam_15 : decode cX2_isSeam 15 = .ok (.ireturn, 1) := by decide +kernel
theorem dX2_boundCouple_0 : decode cX2_boundCouple 0 = .ok (.aload_n 0, 1) := by decide +kernel
theorem dX2_boundCouple_1 : decode cX2_boundCouple 1 = .ok (.iconst 0, 1) := by decide +kernel
theorem dX2_boundCouple_2 : decode cX2_boundCouple 2 = .ok (.iconst 0, 1) := by decide +kernel
theorem dX2_boundCouple_3 : decode cX2_boundCouple 3 = .ok (.bipush 8, 2) := by decide +kernel
theorem dX2_boundCouple_5 : decode cX2_boundCouple 5 = .ok (.invokevirtual 175, 3) := by decide +kernel
theorem dX2_boundCouple_8 : decode cX2_boundCouple 8 = .ok (.aload_n 0, 1) := by decide +kernel
theorem dX2_boundCouple_9 : decode cX2_boundCouple 9 = .ok (.iconst 1, 1) := by decide +kernel
theorem dX2_boundCouple_10 : decode cX2_boundCouple 10 = .ok (.iconst 0, 1) := by decide +kernel
theorem dX2_boundCouple_11 : decode cX2_boundCouple 11 = .ok (.bipush 8, 2) := by decide +kernel
theorem dX2_boundCouple_13 : decode cX2_boundCouple 13 = .ok (.invokevirtual 175, 3) := by decide +kernel
theorem dX2_boundCouple_16 : decode cX2_boundCouple 16 = .ok (.aload_n 0, 1) := by decide +kernel
theorem dX2_boundCouple_17 : decode cX2_boundCouple 17 = .ok (.getfield 39, 3) := by decide +kernel
theorem dX2_boundCouple_20 : decode cX2_boundCouple 20 = .ok (.iconst 0, 1) := by decide +kernel
theorem dX2_boundCouple_21 : decode cX2_boundCouple 21 = .ok (.iaload, 1) := by decide +kernel
theorem dX2_boundCouple_22 : decode cX2_boundCouple 22 = .ok (.aload_n 0, 1) := by decide +kernel
theorem dX2_boundCouple_23 : decode cX2_boundCouple 23 = .ok (.getfield 39, 3) := by decide +kernel
theorem dX2_boundCouple_26 : decode cX2_boundCouple 26 = .ok (.iconst 1, 1) := by decide +kernel
theorem dX2_boundCouple_27 : decode cX2_boundCouple 27 = .ok (.iaload, 1) := by decide +kernel
theorem dX2_boundCouple_28 : decode cX2_boundCouple 28 = .ok (.if_icmp .ne 14, 3) := by decide +kernel
theorem dX2_boundCouple_31 : decode cX2_boundCouple 31 = .ok (.aload_n 0, 1) := by decide +kernel
theorem dX2_boundCouple_32 : decode cX2_boundCouple 32 = .ok (.iconst 2, 1) := by decide +kernel
theorem dX2_boundCouple_33 : decode cX2_boundCouple 33 = .ok (.aload_n 0, 1) := by decide +kernel
theorem dX2_boundCouple_34 : decode cX2_boundCouple 34 = .ok (.getfield 43, 3) := by decide +kernel
theorem dX2_boundCouple_37 : decode cX2_boundCouple 37 = .ok (.iconst 1, 1) := by decide +kernel
theorem dX2_boundCouple_38 : decode cX2_boundCouple 38 = .ok (.iaload, 1) := by decide +kernel
theorem dX2_boundCouple_39 : decode cX2_boundCouple 39 = .ok (.invokevirtual 98, 3) := by decide +kernel
theorem dX2_boundCouple_42 : decode cX2_boundCouple 42 = .ok (.return_, 1) := by decide +kernel
theorem dX2_bound_0 : decode cX2_bound 0 = .ok (.iload_n 1, 1) := by decide +kernel
theorem dX2_bound_1 : decode cX2_bound 1 = .ok (.ifCond .lt 39, 3) := by decide +kernel
theorem dX2_bound_4 : decode cX2_bound 4 = .ok (.iload_n 1, 1) := by decide +kernel
theorem dX2_bound_5 : decode cX2_bound 5 = .ok (.iconst 4, 1) := by decide +kernel
theorem dX2_bound_6 : decode cX2_bound 6 = .ok (.if_icmp .ge 34, 3) := by decide +kernel
theorem dX2_bound_9 : decode cX2_bound 9 = .ok (.aload_n 0, 1) := by decide +kernel
theorem dX2_bound_10 : decode cX2_bound 10 = .ok (.getfield 39, 3) := by decide +kernel
theorem dX2_bound_13 : decode cX2_bound 13 = .ok (.iload_n 1, 1) := by decide +kernel
theorem dX2_bound_14 : decode cX2_bound 14 = .ok (.iaload, 1) := by decide +kernel
theorem dX2_bound_15 : decode cX2_bound 15 = .ok (.iload_n 2, 1) := by decide +kernel
theorem dX2_bound_16 : decode cX2_bound 16 = .ok (.if_icmp .lt 13, 3) := by decide +kernel
theorem dX2_bound_19 : decode cX2_bound 19 = .ok (.aload_n 0, 1) := by decide +kernel
theorem dX2_bound_20 : decode cX2_bound 20 = .ok (.getfield 39, 3) := by decide +kernel
theorem dX2_bound_23 : decode cX2_bound 23 = .ok (.iload_n 1, 1) := by decide +kernel
theorem dX2_bound_24 : decode cX2_bound 24 = .ok (.iaload, 1) := by decide +kernel
theorem dX2_bound_25 : decode cX2_bound 25 = .ok (.iload_n 3, 1) := by decide +kernel
theorem dX2_bound_26 : decode cX2_bound 26 = .ok (.if_icmp .le 14, 3) := by decide +kernel
theorem dX2_bound_29 : decode cX2_bound 29 = .ok (.aload_n 0, 1) := by decide +kernel
theorem dX2_bound_30 : decode cX2_bound 30 = .ok (.iconst 2, 1) := by decide +kernel
theorem dX2_bound_31 : decode cX2_bound 31 = .ok (.aload_n 0, 1) := by decide +kernel
theorem dX2_bound_32 : decode cX2_bound 32 = .ok (.getfield 43, 3) := by decide +kernel
theorem dX2_bound_35 : decode cX2_bound 35 = .ok (.iload_n 1, 1) := by decide +kernel
theorem dX2_bound_36 : decode cX2_bound 36 = .ok (.iaload, 1) := by decide +kernel
theorem dX2_bound_37 : decode cX2_bound 37 = .ok (.invokevirtual 98, 3) := by decide +kernel
theorem dX2_bound_40 : decode cX2_bound 40 = .ok (.return_, 1) := by decide +kernel
theorem dX2_leaveRoom_0 : decode cX2_leaveRoom 0 = .ok (.iload_n 1, 1) := by decide +kernel
theorem dX2_leaveRoom_1 : decode cX2_leaveRoom 1 = .ok (.iload_n 2, 1) := by decide +kernel
theorem dX2_leaveRoom_2 : decode cX2_leaveRoom 2 = .ok (.if_icmp .lt 9, 3) := by decide +kernel
theorem dX2_leaveRoom_5 : decode cX2_leaveRoom 5 = .ok (.aload_n 0, 1) := by decide +kernel
theorem dX2_leaveRoom_6 : decode cX2_leaveRoom 6 = .ok (.iconst 3, 1) := by decide +kernel
theorem dX2_leaveRoom_7 : decode cX2_leaveRoom 7 = .ok (.iload_n 3, 1) := by decide +kernel
theorem dX2_leaveRoom_8 : decode cX2_leaveRoom 8 = .ok (.invokevirtual 98, 3) := by decide +kernel
theorem dX2_leaveRoom_11 : decode cX2_leaveRoom 11 = .ok (.return_, 1) := by decide +kernel
theorem dX2_note_0 : decode cX2_note 0 = .ok (.aload_n 0, 1) := by decide +kernel
theorem dX2_note_1 : decode cX2_note 1 = .ok (.getfield 66, 3) := by decide +kernel
theorem dX2_note_4 : decode cX2_note 4 = .ok (.ifCond .ne 13, 3) := by decide +kernel
theorem dX2_note_7 : decode cX2_note 7 = .ok (.aload_n 0, 1) := by decide +kernel
theorem dX2_note_8 : decode cX2_note 8 = .ok (.iload_n 1, 1) := by decide +kernel
theorem dX2_note_9 : decode cX2_note 9 = .ok (.putfield 66, 3) := by decide +kernel
theorem dX2_note_12 : decode cX2_note 12 = .ok (.aload_n 0, 1) := by decide +kernel
theorem dX2_note_13 : decode cX2_note 13 = .ok (.iload_n 2, 1) := by decide +kernel
theorem dX2_note_14 : decode cX2_note 14 = .ok (.putfield 69, 3) := by decide +kernel
theorem dX2_note_17 : decode cX2_note 17 = .ok (.return_, 1) := by decide +kernel
theorem dX2_breakOff_0 : decode cX2_breakOff 0 = .ok (.aload_n 0, 1) := by decide +kernel
theorem dX2_breakOff_1 : decode cX2_breakOff 1 = .ok (.iconst 1, 1) := by decide +kernel
theorem dX2_breakOff_2 : decode cX2_breakOff 2 = .ok (.putfield 66, 3) := by decide +kernel
theorem dX2_breakOff_5 : decode cX2_breakOff 5 = .ok (.aload_n 0, 1) := by decide +kernel
theorem dX2_breakOff_6 : decode cX2_breakOff 6 = .ok (.aload_n 0, 1) := by decide +kernel
theorem dX2_breakOff_7 : decode cX2_breakOff 7 = .ok (.getfield 102, 3) := by decide +kernel
theorem dX2_breakOff_10 : decode cX2_breakOff 10 = .ok (.putfield 69, 3) := by decide +kernel
theorem dX2_breakOff_13 : decode cX2_breakOff 13 = .ok (.return_, 1) := by decide +kernel
theorem dX2_step_0 : decode cX2_step 0 = .ok (.aload_n 0, 1) := by decide +kernel
theorem dX2_step_1 : decode cX2_step 1 = .ok (.getfield 60, 3) := by decide +kernel
theorem dX2_step_4 : decode cX2_step 4 = .ok (.istore_n 1, 1) := by decide +kernel
theorem dX2_step_5 : decode cX2_step 5 = .ok (.iload_n 1, 1) := by decide +kernel
theorem dX2_step_6 : decode cX2_step 6 = .ok (.aload_n 0, 1) := by decide +kernel
theorem dX2_step_7 : decode cX2_step 7 = .ok (.getfield 56, 3) := by decide +kernel
theorem dX2_step_10 : decode cX2_step 10 = .ok (.if_icmp .ge 21, 3) := by decide +kernel
theorem dX2_step_13 : decode cX2_step 13 = .ok (.aload_n 0, 1) := by decide +kernel
theorem dX2_step_14 : decode cX2_step 14 = .ok (.getfield 46, 3) := by decide +kernel
theorem dX2_step_17 : decode cX2_step 17 = .ok (.iload_n 1, 1) := by decide +kernel
theorem dX2_step_18 : decode cX2_step 18 = .ok (.baload, 1) := by decide +kernel
theorem dX2_step_19 : decode cX2_step 19 = .ok (.invokestatic 222, 3) := by decide +kernel
theorem dX2_step_22 : decode cX2_step 22 = .ok (.ifCond .eq 9, 3) := by decide +kernel
theorem dX2_step_25 : decode cX2_step 25 = .ok (.iinc 1 1, 3) := by decide +kernel
theorem dX2_step_28 : decode cX2_step 28 = .ok (.goto (-23), 3) := by decide +kernel
theorem dX2_step_31 : decode cX2_step 31 = .ok (.aload_n 0, 1) := by decide +kernel
theorem dX2_step_32 : decode cX2_step 32 = .ok (.iload_n 1, 1) := by decide +kernel
theorem dX2_step_33 : decode cX2_step 33 = .ok (.putfield 102, 3) := by decide +kernel
theorem dX2_step_36 : decode cX2_step 36 = .ok (.aload_n 0, 1) := by decide +kernel
theorem dX2_step_37 : decode cX2_step 37 = .ok (.iload_n 1, 1) := by decide +kernel
theorem dX2_step_38 : decode cX2_step 38 = .ok (.putfield 60, 3) := by decide +kernel
theorem dX2_step_41 : decode cX2_step 41 = .ok (.iload_n 1, 1) := by decide +kernel
theorem dX2_step_42 : decode cX2_step 42 = .ok (.aload_n 0, 1) := by decide +kernel
theorem dX2_step_43 : decode cX2_step 43 = .ok (.getfield 56, 3) := by decide +kernel
theorem dX2_step_46 : decode cX2_step 46 = .ok (.if_icmp .lt 11, 3) := by decide +kernel
theorem dX2_step_49 : decode cX2_step 49 = .ok (.aload_n 0, 1) := by decide +kernel
theorem dX2_step_50 : decode cX2_step 50 = .ok (.iconst 0, 1) := by decide +kernel
theorem dX2_step_51 : decode cX2_step 51 = .ok (.putfield 85, 3) := by decide +kernel
theorem dX2_step_54 : decode cX2_step 54 = .ok (.goto 168, 3) := by decide +kernel
theorem dX2_step_57 : decode cX2_step 57 = .ok (.aload_n 0, 1) := by decide +kernel
theorem dX2_step_58 : decode cX2_step 58 = .ok (.getfield 46, 3) := by decide +kernel
theorem dX2_step_61 : decode cX2_step 61 = .ok (.iload_n 1, 1) := by decide +kernel
theorem dX2_step_62 : decode cX2_step 62 = .ok (.baload, 1) := by decide +kernel
theorem dX2_step_63 : decode cX2_step 63 = .ok (.invokestatic 225, 3) := by decide +kernel
theorem dX2_step_66 : decode cX2_step 66 = .ok (.ifCond .eq 50, 3) := by decide +kernel
theorem dX2_step_69 : decode cX2_step 69 = .ok (.aload_n 0, 1) := by decide +kernel
theorem dX2_step_70 : decode cX2_step 70 = .ok (.getfield 60, 3) := by decide +kernel
theorem dX2_step_73 : decode cX2_step 73 = .ok (.aload_n 0, 1) := by decide +kernel
theorem dX2_step_74 : decode cX2_step 74 = .ok (.getfield 56, 3) := by decide +kernel
theorem dX2_step_77 : decode cX2_step 77 = .ok (.if_icmp .ge 31, 3) := by decide +kernel
theorem dX2_step_80 : decode cX2_step 80 = .ok (.aload_n 0, 1) := by decide +kernel
theorem dX2_step_81 : decode cX2_step 81 = .ok (.getfield 46, 3) := by decide +kernel
theorem dX2_step_84 : decode cX2_step 84 = .ok (.aload_n 0, 1) := by decide +kernel
theorem dX2_step_85 : decode cX2_step 85 = .ok (.getfield 60, 3) := by decide +kernel
theorem dX2_step_88 : decode cX2_step 88 = .ok (.baload, 1) := by decide +kernel
theorem dX2_step_89 : decode cX2_step 89 = .ok (.invokestatic 225, 3) := by decide +kernel
theorem dX2_step_92 : decode cX2_step 92 = .ok (.ifCond .eq 16, 3) := by decide +kernel
theorem dX2_step_95 : decode cX2_step 95 = .ok (.aload_n 0, 1) := by decide +kernel
theorem dX2_step_96 : decode cX2_step 96 = .ok (.dup, 1) := by decide +kernel
theorem dX2_step_97 : decode cX2_step 97 = .ok (.getfield 60, 3) := by decide +kernel
theorem dX2_step_100 : decode cX2_step 100 = .ok (.iconst 1, 1) := by decide +kernel
theorem dX2_step_101 : decode cX2_step 101 = .ok (.iadd, 1) := by decide +kernel
theorem dX2_step_102 : decode cX2_step 102 = .ok (.putfield 60, 3) := by decide +kernel
theorem dX2_step_105 : decode cX2_step 105 = .ok (.goto (-36), 3) := by decide +kernel
theorem dX2_step_108 : decode cX2_step 108 = .ok (.aload_n 0, 1) := by decide +kernel
theorem dX2_step_109 : decode cX2_step 109 = .ok (.iconst 1, 1) := by decide +kernel
theorem dX2_step_110 : decode cX2_step 110 = .ok (.putfield 85, 3) := by decide +kernel
theorem dX2_step_113 : decode cX2_step 113 = .ok (.goto 109, 3) := by decide +kernel
theorem dX2_step_116 : decode cX2_step 116 = .ok (.aload_n 0, 1) := by decide +kernel
theorem dX2_step_117 : decode cX2_step 117 = .ok (.getfield 46, 3) := by decide +kernel
theorem dX2_step_120 : decode cX2_step 120 = .ok (.iload_n 1, 1) := by decide +kernel
theorem dX2_step_121 : decode cX2_step 121 = .ok (.baload, 1) := by decide +kernel
theorem dX2_step_122 : decode cX2_step 122 = .ok (.invokestatic 228, 3) := by decide +kernel
theorem dX2_step_125 : decode cX2_step 125 = .ok (.ifCond .eq 67, 3) := by decide +kernel
theorem dX2_step_128 : decode cX2_step 128 = .ok (.aload_n 0, 1) := by decide +kernel
theorem dX2_step_129 : decode cX2_step 129 = .ok (.getfield 60, 3) := by decide +kernel
theorem dX2_step_132 : decode cX2_step 132 = .ok (.aload_n 0, 1) := by decide +kernel
theorem dX2_step_133 : decode cX2_step 133 = .ok (.getfield 56, 3) := by decide +kernel
theorem dX2_step_136 : decode cX2_step 136 = .ok (.if_icmp .ge 31, 3) := by decide +kernel
theorem dX2_step_139 : decode cX2_step 139 = .ok (.aload_n 0, 1) := by decide +kernel
theorem dX2_step_140 : decode cX2_step 140 = .ok (.getfield 46, 3) := by decide +kernel
theorem dX2_step_143 : decode cX2_step 143 = .ok (.aload_n 0, 1) := by decide +kernel
theorem dX2_step_144 : decode cX2_step 144 = .ok (.getfield 60, 3) := by decide +kernel
theorem dX2_step_147 : decode cX2_step 147 = .ok (.baload, 1) := by decide +kernel
theorem dX2_step_148 : decode cX2_step 148 = .ok (.invokestatic 228, 3) := by decide +kernel
theorem dX2_step_151 : decode cX2_step 151 = .ok (.ifCond .eq 16, 3) := by decide +kernel
theorem dX2_step_154 : decode cX2_step 154 = .ok (.aload_n 0, 1) := by decide +kernel
theorem dX2_step_155 : decode cX2_step 155 = .ok (.dup, 1) := by decide +kernel
theorem dX2_step_156 : decode cX2_step 156 = .ok (.getfield 60, 3) := by decide +kernel
theorem dX2_step_159 : decode cX2_step 159 = .ok (.iconst 1, 1) := by decide +kernel
theorem dX2_step_160 : decode cX2_step 160 = .ok (.iadd, 1) := by decide +kernel
theorem dX2_step_161 : decode cX2_step 161 = .ok (.putfield 60, 3) := by decide +kernel
theorem dX2_step_164 : decode cX2_step 164 = .ok (.goto (-36), 3) := by decide +kernel
theorem dX2_step_167 : decode cX2_step 167 = .ok (.aload_n 0, 1) := by decide +kernel
theorem dX2_step_168 : decode cX2_step 168 = .ok (.aload_n 0, 1) := by decide +kernel
theorem dX2_step_169 : decode cX2_step 169 = .ok (.getfield 60, 3) := by decide +kernel
theorem dX2_step_172 : decode cX2_step 172 = .ok (.aload_n 0, 1) := by decide +kernel
theorem dX2_step_173 : decode cX2_step 173 = .ok (.getfield 102, 3) := by decide +kernel
theorem dX2_step_176 : decode cX2_step 176 = .ok (.isub, 1) := by decide +kernel
theorem dX2_step_177 : decode cX2_step 177 = .ok (.iconst 2, 1) := by decide +kernel
theorem dX2_step_178 : decode cX2_step 178 = .ok (.if_icmp .gt 7, 3) := by decide +kernel
theorem dX2_step_181 : decode cX2_step 181 = .ok (.iconst 2, 1) := by decide +kernel
theorem dX2_step_182 : decode cX2_step 182 = .ok (.goto 4, 3) := by decide +kernel
theorem dX2_step_185 : decode cX2_step 185 = .ok (.iconst 4, 1) := by decide +kernel
theorem dX2_step_186 : decode cX2_step 186 = .ok (.putfield 85, 3) := by decide +kernel
theorem dX2_step_189 : decode cX2_step 189 = .ok (.goto 33, 3) := by decide +kernel
theorem dX2_step_192 : decode cX2_step 192 = .ok (.aload_n 0, 1) := by decide +kernel
theorem dX2_step_193 : decode cX2_step 193 = .ok (.aload_n 0, 1) := by decide +kernel
theorem dX2_step_194 : decode cX2_step 194 = .ok (.getfield 46, 3) := by decide +kernel
theorem dX2_step_197 : decode cX2_step 197 = .ok (.iload_n 1, 1) := by decide +kernel
theorem dX2_step_198 : decode cX2_step 198 = .ok (.baload, 1) := by decide +kernel
theorem dX2_step_199 : decode cX2_step 199 = .ok (.bipush 59, 2) := by decide +kernel
theorem dX2_step_201 : decode cX2_step 201 = .ok (.if_icmp .ne 7, 3) := by decide +kernel
theorem dX2_step_204 : decode cX2_step 204 = .ok (.iconst 3, 1) := by decide +kernel
theorem dX2_step_205 : decode cX2_step 205 = .ok (.goto 4, 3) := by decide +kernel
theorem dX2_step_208 : decode cX2_step 208 = .ok (.iconst 4, 1) := by decide +kernel
theorem dX2_step_209 : decode cX2_step 209 = .ok (.putfield 85, 3) := by decide +kernel
theorem dX2_step_212 : decode cX2_step 212 = .ok (.aload_n 0, 1) := by decide +kernel
theorem dX2_step_213 : decode cX2_step 213 = .ok (.dup, 1) := by decide +kernel
theorem dX2_step_214 : decode cX2_step 214 = .ok (.getfield 60, 3) := by decide +kernel
theorem dX2_step_217 : decode cX2_step 217 = .ok (.iconst 1, 1) := by decide +kernel
theorem dX2_step_218 : decode cX2_step 218 = .ok (.iadd, 1) := by decide +kernel
theorem dX2_step_219 : decode cX2_step 219 = .ok (.putfield 60, 3) := by decide +kernel
theorem dX2_step_222 : decode cX2_step 222 = .ok (.return_, 1) := by decide +kernel
theorem dX2_numberOfToken_0 : decode cX2_numberOfToken 0 = .ok (.iconst 0, 1) := by decide +kernel
theorem dX2_numberOfToken_1 : decode cX2_numberOfToken 1 = .ok (.istore_n 1, 1) := by decide +kernel
theorem dX2_numberOfToken_2 : decode cX2_numberOfToken 2 = .ok (.aload_n 0, 1) := by decide +kernel
theorem dX2_numberOfToken_3 : decode cX2_numberOfToken 3 = .ok (.getfield 102, 3) := by decide +kernel
theorem dX2_numberOfToken_6 : decode cX2_numberOfToken 6 = .ok (.istore_n 2, 1) := by decide +kernel
theorem dX2_numberOfToken_7 : decode cX2_numberOfToken 7 = .ok (.iload_n 2, 1) := by decide +kernel
theorem dX2_numberOfToken_8 : decode cX2_numberOfToken 8 = .ok (.aload_n 0, 1) := by decide +kernel
theorem dX2_numberOfToken_9 : decode cX2_numberOfToken 9 = .ok (.getfield 60, 3) := by decide +kernel
theorem dX2_numberOfToken_12 : decode cX2_numberOfToken 12 = .ok (.if_icmp .ge 32, 3) := by decide +kernel
theorem dX2_numberOfToken_15 : decode cX2_numberOfToken 15 = .ok (.iload_n 2, 1) := by decide +kernel
theorem dX2_numberOfToken_16 : decode cX2_numberOfToken 16 = .ok (.aload_n 0, 1) := by decide +kernel
theorem dX2_numberOfToken_17 : decode cX2_numberOfToken 17 = .ok (.getfield 56, 3) := by decide +kernel
theorem dX2_numberOfToken_20 : decode cX2_numberOfToken 20 = .ok (.if_icmp .ge 24, 3) := by decide +kernel
theorem dX2_numberOfToken_23 : decode cX2_numberOfToken 23 = .ok (.iload_n 1, 1) := by decide +kernel
theorem dX2_numberOfToken_24 : decode cX2_numberOfToken 24 = .ok (.bipush 10, 2) := by decide +kernel
theorem dX2_numberOfToken_26 : decode cX2_numberOfToken 26 = .ok (.imul, 1) := by decide +kernel
theorem dX2_numberOfToken_27 : decode cX2_numberOfToken 27 = .ok (.aload_n 0, 1) := by decide +kernel
theorem dX2_numberOfToken_28 : decode cX2_numberOfToken 28 = .ok (.getfield 46, 3) := by decide +kernel
theorem dX2_numberOfToken_31 : decode cX2_numberOfToken 31 = .ok (.iload_n 2, 1) := by decide +kernel
theorem dX2_numberOfToken_32 : decode cX2_numberOfToken 32 = .ok (.baload, 1) := by decide +kernel
theorem dX2_numberOfToken_33 : decode cX2_numberOfToken 33 = .ok (.iadd, 1) := by decide +kernel
theorem dX2_numberOfToken_34 : decode cX2_numberOfToken 34 = .ok (.bipush 48, 2) := by decide +kernel
theorem dX2_numberOfToken_36 : decode cX2_numberOfToken 36 = .ok (.isub, 1) := by decide +kernel
theorem dX2_numberOfToken_37 : decode cX2_numberOfToken 37 = .ok (.istore_n 1, 1) := by decide +kernel
theorem dX2_numberOfToken_38 : decode cX2_numberOfToken 38 = .ok (.iinc 2 1, 3) := by decide +kernel
theorem dX2_numberOfToken_41 : decode cX2_numberOfToken 41 = .ok (.goto (-34), 3) := by decide +kernel
theorem dX2_numberOfToken_44 : decode cX2_numberOfToken 44 = .ok (.iload_n 1, 1) := by decide +kernel
theorem dX2_numberOfToken_45 : decode cX2_numberOfToken 45 = .ok (.ireturn, 1) := by decide +kernel
theorem dX2_is_0 : decode cX2_is 0 = .ok (.aload_n 0, 1) := by decide +kernel
theorem dX2_is_1 : decode cX2_is 1 = .ok (.getfield 60, 3) := by decide +kernel
theorem dX2_is_4 : decode cX2_is 4 = .ok (.aload_n 0, 1) := by decide +kernel
theorem dX2_is_5 : decode cX2_is 5 = .ok (.getfield 102, 3) := by decide +kernel
theorem dX2_is_8 : decode cX2_is 8 = .ok (.isub, 1) := by decide +kernel
theorem dX2_is_9 : decode cX2_is 9 = .ok (.aload_n 1, 1) := by decide +kernel
theorem dX2_is_10 : decode cX2_is 10 = .ok (.invokevirtual 231, 3) := by decide +kernel
theorem dX2_is_13 : decode cX2_is 13 = .ok (.if_icmp .ne 14, 3) := by decide +kernel
theorem dX2_is_16 : decode cX2_is 16 = .ok (.aload_n 0, 1) := by decide +kernel
theorem dX2_is_17 : decode cX2_is 17 = .ok (.getfield 60, 3) := by decide +kernel
theorem dX2_is_20 : decode cX2_is 20 = .ok (.aload_n 0, 1) := by decide +kernel
theorem dX2_is_21 : decode cX2_is 21 = .ok (.getfield 56, 3) := by decide +kernel
theorem dX2_is_24 : decode cX2_is 24 = .ok (.if_icmp .le 5, 3) := by decide +kernel
theorem dX2_is_27 : decode cX2_is 27 = .ok (.iconst 0, 1) := by decide +kernel
theorem dX2_is_28 : decode cX2_is 28 = .ok (.ireturn, 1) := by decide +kernel
theorem dX2_is_29 : decode cX2_is 29 = .ok (.iconst 0, 1) := by decide +kernel
theorem dX2_is_30 : decode cX2_is 30 = .ok (.istore_n 2, 1) := by decide +kernel
theorem dX2_is_31 : decode cX2_is 31 = .ok (.iload_n 2, 1) := by decide +kernel
theorem dX2_is_32 : decode cX2_is 32 = .ok (.aload_n 1, 1) := by decide +kernel
theorem dX2_is_33 : decode cX2_is 33 = .ok (.invokevirtual 231, 3) := by decide +kernel
theorem dX2_is_36 : decode cX2_is 36 = .ok (.if_icmp .ge 30, 3) := by decide +kernel
theorem dX2_is_39 : decode cX2_is 39 = .ok (.aload_n 0, 1) := by decide +kernel
theorem dX2_is_40 : decode cX2_is 40 = .ok (.getfield 46, 3) := by decide +kernel
theorem dX2_is_43 : decode cX2_is 43 = .ok (.aload_n 0, 1) := by decide +kernel
theorem dX2_is_44 : decode cX2_is 44 = .ok (.getfield 102, 3) := by decide +kernel
theorem dX2_is_47 : decode cX2_is 47 = .ok (.iload_n 2, 1) := by decide +kernel
theorem dX2_is_48 : decode cX2_is 48 = .ok (.iadd, 1) := by decide +kernel
theorem dX2_is_49 : decode cX2_is 49 = .ok (.baload, 1) := by decide +kernel
theorem dX2_is_50 : decode cX2_is 50 = .ok (.aload_n 1, 1) := by decide +kernel
theorem dX2_is_51 : decode cX2_is 51 = .ok (.iload_n 2, 1) := by decide +kernel
theorem dX2_is_52 : decode cX2_is 52 = .ok (.invokevirtual 235, 3) := by decide +kernel
theorem dX2_is_55 : decode cX2_is 55 = .ok (.if_icmp .eq 5, 3) := by decide +kernel
theorem dX2_is_58 : decode cX2_is 58 = .ok (.iconst 0, 1) := by decide +kernel
theorem dX2_is_59 : decode cX2_is 59 = .ok (.ireturn, 1) := by decide +kernel
theorem dX2_is_60 : decode cX2_is 60 = .ok (.iinc 2 1, 3) := by decide +kernel
theorem dX2_is_63 : decode cX2_is 63 = .ok (.goto (-32), 3) := by decide +kernel
theorem dX2_is_66 : decode cX2_is 66 = .ok (.iconst 1, 1) := by decide +kernel
theorem dX2_is_67 : decode cX2_is 67 = .ok (.ireturn, 1) := by decide +kernel
theorem dX2_isBlank_0 : decode cX2_isBlank 0 = .ok (.iload_n 0, 1) := by decide +kernel
theorem dX2_isBlank_1 : decode cX2_isBlank 1 = .ok (.bipush 10, 2) := by decide +kernel
theorem dX2_isBlank_3 : decode cX2_isBlank 3 = .ok (.if_icmp .eq 9, 3) := by decide +kernel
theorem dX2_isBlank_6 : decode cX2_isBlank 6 = .ok (.iload_n 0, 1) := by decide +kernel
theorem dX2_isBlank_7 : decode cX2_isBlank 7 = .ok (.bipush 32, 2) := by decide +kernel
theorem dX2_isBlank_9 : decode cX2_isBlank 9 = .ok (.if_icmp .ne 7, 3) := by decide +kernel
theorem dX2_isBlank_12 : decode cX2_isBlank 12 = .ok (.iconst 1, 1) := by decide +kernel
theorem dX2_isBlank_13 : decode cX2_isBlank 13 = .ok (.goto 4, 3) := by decide +kernel
theorem dX2_isBlank_16 : decode cX2_isBlank 16 = .ok (.iconst 0, 1) := by decide +kernel
theorem dX2_isBlank_17 : decode cX2_isBlank 17 = .ok (.ireturn, 1) := by decide +kernel
theorem dX2_isLetter_0 : decode cX2_isLetter 0 = .ok (.iload_n 0, 1) := by decide +kernel
theorem dX2_isLetter_1 : decode cX2_isLetter 1 = .ok (.bipush 97, 2) := by decide +kernel
theorem dX2_isLetter_3 : decode cX2_isLetter 3 = .ok (.if_icmp .lt 13, 3) := by decide +kernel
theorem dX2_isLetter_6 : decode cX2_isLetter 6 = .ok (.iload_n 0, 1) := by decide +kernel
theorem dX2_isLetter_7 : decode cX2_isLetter 7 = .ok (.bipush 122, 2) := by decide +kernel
theorem dX2_isLetter_9 : decode cX2_isLetter 9 = .ok (.if_icmp .gt 7, 3) := by decide +kernel
theorem dX2_isLetter_12 : decode cX2_isLetter 12 = .ok (.iconst 1, 1) := by decide +kernel
theorem dX2_isLetter_13 : decode cX2_isLetter 13 = .ok (.goto 4, 3) := by decide +kernel
theorem dX2_isLetter_16 : decode cX2_isLetter 16 = .ok (.iconst 0, 1) := by decide +kernel
theorem dX2_isLetter_17 : decode cX2_isLetter 17 = .ok (.ireturn, 1) := by decide +kernel
theorem dX2_isDigit_0 : decode cX2_isDigit 0 = .ok (.iload_n 0, 1) := by decide +kernel
theorem dX2_isDigit_1 : decode cX2_isDigit 1 = .ok (.bipush 48, 2) := by decide +kernel
theorem dX2_isDigit_3 : decode cX2_isDigit 3 = .ok (.if_icmp .lt 13, 3) := by decide +kernel
theorem dX2_isDigit_6 : decode cX2_isDigit 6 = .ok (.iload_n 0, 1) := by decide +kernel
theorem dX2_isDigit_7 : decode cX2_isDigit 7 = .ok (.bipush 57, 2) := by decide +kernel
theorem dX2_isDigit_9 : decode cX2_isDigit 9 = .ok (.if_icmp .gt 7, 3) := by decide +kernel
theorem dX2_isDigit_12 : decode cX2_isDigit 12 = .ok (.iconst 1, 1) := by decide +kernel
theorem dX2_isDigit_13 : decode cX2_isDigit 13 = .ok (.goto 4, 3) := by decide +kernel
theorem dX2_isDigit_16 : decode cX2_isDigit 16 = .ok (.iconst 0, 1) := by decide +kernel
theorem dX2_isDigit_17 : decode cX2_isDigit 17 = .ok (.ireturn, 1) := by decide +kernel
theorem dX3_init_0 : decode cX3_init 0 = .ok (.aload_n 0, 1) := by decide +kernel
theorem dX3_init_1 : decode cX3_init 1 = .ok (.invokespecial 3, 3) := by decide +kernel
theorem dX3_init_4 : decode cX3_init 4 = .ok (.aload_n 0, 1) := by decide +kernel
theorem dX3_init_5 : decode cX3_init 5 = .ok (.new 9, 3) := by decide +kernel
theorem dX3_init_8 : decode cX3_init 8 = .ok (.dup, 1) := by decide +kernel
theorem dX3_init_9 : decode cX3_init 9 = .ok (.invokespecial 11, 3) := by decide +kernel
theorem dX3_init_12 : decode cX3_init 12 = .ok (.putfield 12, 3) := by decide +kernel
theorem dX3_init_15 : decode cX3_init 15 = .ok (.aload_n 0, 1) := by decide +kernel
theorem dX3_init_16 : decode cX3_init 16 = .ok (.bipush 9, 2) := by decide +kernel
theorem dX3_init_18 : decode cX3_init 18 = .ok (.newarray .int, 2) := by decide +kernel
theorem dX3_init_20 : decode cX3_init 20 = .ok (.putfield 18, 3) := by decide +kernel
theorem dX3_init_23 : decode cX3_init 23 = .ok (.aload_n 0, 1) := by decide +kernel
theorem dX3_init_24 : decode cX3_init 24 = .ok (.bipush 9, 2) := by decide +kernel
theorem dX3_init_26 : decode cX3_init 26 = .ok (.newarray .int, 2) := by decide +kernel
theorem dX3_init_28 : decode cX3_init 28 = .ok (.putfield 22, 3) := by decide +kernel
theorem dX3_init_31 : decode cX3_init 31 = .ok (.aload_n 0, 1) := by decide +kernel
theorem dX3_init_32 : decode cX3_init 32 = .ok (.bipush 9, 2) := by decide +kernel
theorem dX3_init_34 : decode cX3_init 34 = .ok (.newarray .int, 2) := by decide +kernel
theorem dX3_init_36 : decode cX3_init 36 = .ok (.putfield 25, 3) := by decide +kernel
theorem dX3_init_39 : decode cX3_init 39 = .ok (.aload_n 0, 1) := by decide +kernel
theorem dX3_init_40 : decode cX3_init 40 = .ok (.bipush 9, 2) := by decide +kernel
theorem dX3_init_42 : decode cX3_init 42 = .ok (.newarray .int, 2) := by decide +kernel
theorem dX3_init_44 : decode cX3_init 44 = .ok (.putfield 28, 3) := by decide +kernel
theorem dX3_init_47 : decode cX3_init 47 = .ok (.aload_n 0, 1) := by decide +kernel
theorem dX3_init_48 : decode cX3_init 48 = .ok (.iconst 4, 1) := by decide +kernel
theorem dX3_init_49 : decode cX3_init 49 = .ok (.newarray .int, 2) := by decide +kernel
theorem dX3_init_51 : decode cX3_init 51 = .ok (.putfield 31, 3) := by decide +kernel
theorem dX3_init_54 : decode cX3_init 54 = .ok (.aload_n 0, 1) := by decide +kernel
theorem dX3_init_55 : decode cX3_init 55 = .ok (.bipush 100, 2) := by decide +kernel
theorem dX3_init_57 : decode cX3_init 57 = .ok (.newarray .int, 2) := by decide +kernel
theorem dX3_init_59 : decode cX3_init 59 = .ok (.putfield 34, 3) := by decide +kernel
theorem dX3_init_62 : decode cX3_init 62 = .ok (.aload_n 0, 1) := by decide +kernel
theorem dX3_init_63 : decode cX3_init 63 = .ok (.sipush 512, 3) := by decide +kernel
theorem dX3_init_66 : decode cX3_init 66 = .ok (.newarray .int, 2) := by decide +kernel
theorem dX3_init_68 : decode cX3_init 68 = .ok (.putfield 37, 3) := by decide +kernel
theorem dX3_init_71 : decode cX3_init 71 = .ok (.aload_n 0, 1) := by decide +kernel
theorem dX3_init_72 : decode cX3_init 72 = .ok (.sipush 2048, 3) := by decide +kernel
theorem dX3_init_75 : decode cX3_init 75 = .ok (.newarray .int, 2) := by decide +kernel
theorem dX3_init_77 : decode cX3_init 77 = .ok (.putfield 40, 3) := by decide +kernel
theorem dX3_init_80 : decode cX3_init 80 = .ok (.return_, 1) := by decide +kernel
theorem dX3_take_0 : decode cX3_take 0 = .ok (.aload_n 0, 1) := by decide +kernel
theorem dX3_take_1 : decode cX3_take 1 = .ok (.aload_n 1, 1) := by decide +kernel
theorem dX3_take_2 : decode cX3_take 2 = .ok (.putfield 12, 3) := by decide +kernel
theorem dX3_take_5 : decode cX3_take 5 = .ok (.aload_n 0, 1) := by decide +kernel
theorem dX3_take_6 : decode cX3_take 6 = .ok (.aload_n 1, 1) := by decide +kernel
theorem dX3_take_7 : decode cX3_take 7 = .ok (.getfield 43, 3) := by decide +kernel
theorem dX3_take_10 : decode cX3_take 10 = .ok (.putfield 47, 3) := by decide +kernel
theorem dX3_take_13 : decode cX3_take 13 = .ok (.aload_n 1, 1) := by decide +kernel
theorem dX3_take_14 : decode cX3_take 14 = .ok (.getfield 48, 3) := by decide +kernel
theorem dX3_take_17 : decode cX3_take 17 = .ok (.iconst 0, 1) := by decide +kernel
theorem dX3_take_18 : decode cX3_take 18 = .ok (.aload_n 0, 1) := by decide +kernel
theorem dX3_take_19 : decode cX3_take 19 = .ok (.getfield 18, 3) := by decide +kernel
theorem dX3_take_22 : decode cX3_take 22 = .ok (.iconst 0, 1) := by decide +kernel
theorem dX3_take_23 : decode cX3_take 23 = .ok (.bipush 9, 2) := by decide +kernel
theorem dX3_take_25 : decode cX3_take 25 = .ok (.invokestatic 51, 3) := by decide +kernel
theorem dX3_take_28 : decode cX3_take 28 = .ok (.aload_n 0, 1) := by decide +kernel
theorem dX3_take_29 : decode cX3_take 29 = .ok (.getfield 22, 3) := by decide +kernel
theorem dX3_take_32 : decode cX3_take 32 = .ok (.sipush 511, 3) := by decide +kernel
theorem dX3_take_35 : decode cX3_take 35 = .ok (.invokestatic 57, 3) := by decide +kernel
theorem dX3_take_38 : decode cX3_take 38 = .ok (.return_, 1) := by decide +kernel
theorem dX3_see_0 : decode cX3_see 0 = .ok (.iconst 0, 1) := by decide +kernel
theorem dX3_see_1 : decode cX3_see 1 = .ok (.istore_n 2, 1) := by decide +kernel
theorem dX3_see_2 : decode cX3_see 2 = .ok (.iload_n 2, 1) := by decide +kernel
theorem dX3_see_3 : decode cX3_see 3 = .ok (.aload_n 1, 1) := by decide +kernel
theorem dX3_see_4 : decode cX3_see 4 = .ok (.getfield 63, 3) := by decide +kernel
theorem dX3_see_7 : decode cX3_see 7 = .ok (.if_icmp .ge 130, 3) := by decide +kernel
theorem dX3_see_10 : decode cX3_see 10 = .ok (.aload_n 1, 1) := by decide +kernel
theorem dX3_see_11 : decode cX3_see 11 = .ok (.getfield 68, 3) := by decide +kernel
theorem dX3_see_14 : decode cX3_see 14 = .ok (.iload_n 2, 1) := by decide +kernel
theorem dX3_see_15 : decode cX3_see 15 = .ok (.iaload, 1) := by decide +kernel
theorem dX3_see_16 : decode cX3_see 16 = .ok (.istore_n 3, 1) := by decide +kernel
theorem dX3_see_17 : decode cX3_see 17 = .ok (.aload_n 1, 1) := by decide +kernel
theorem dX3_see_18 : decode cX3_see 18 = .ok (.getfield 71, 3) := by decide +kernel
theorem dX3_see_21 : decode cX3_see 21 = .ok (.iload_n 2, 1) := by decide +kernel
theorem dX3_see_22 : decode cX3_see 22 = .ok (.iaload, 1) := by decide +kernel
theorem dX3_see_23 : decode cX3_see 23 = .ok (.istore 4, 2) := by decide +kernel
theorem dX3_see_25 : decode cX3_see 25 = .ok (.iload_n 3, 1) := by decide +kernel
theorem dX3_see_26 : decode cX3_see 26 = .ok (.ifCond .lt 105, 3) := by decide +kernel
theorem dX3_see_29 : decode cX3_see 29 = .ok (.iload_n 3, 1) := by decide +kernel
theorem dX3_see_30 : decode cX3_see 30 = .ok (.bipush 9, 2) := by decide +kernel
theorem dX3_see_32 : decode cX3_see 32 = .ok (.if_icmp .ge 99, 3) := by decide +kernel
theorem dX3_see_35 : decode cX3_see 35 = .ok (.iload 4, 2) := by decide +kernel
theorem dX3_see_37 : decode cX3_see 37 = .ok (.ifCond .lt 94, 3) := by decide +kernel
theorem dX3_see_40 : decode cX3_see 40 = .ok (.iload 4, 2) := by decide +kernel
theorem dX3_see_42 : decode cX3_see 42 = .ok (.bipush 9, 2) := by decide +kernel
theorem dX3_see_44 : decode cX3_see 44 = .ok (.if_icmp .lt 6, 3) := by decide +kernel
theorem dX3_see_47 : decode cX3_see 47 = .ok (.goto 84, 3) := by decide +kernel
theorem dX3_see_50 : decode cX3_see 50 = .ok (.aload_n 1, 1) := by decide +kernel
theorem dX3_see_51 : decode cX3_see 51 = .ok (.getfield 74, 3) := by decide +kernel
theorem dX3_see_54 : decode cX3_see 54 = .ok (.iload_n 2, 1) := by decide +kernel
theorem dX3_see_55 : decode cX3_see 55 = .ok (.iaload, 1) := by decide +kernel
theorem dX3_see_56 : decode cX3_see 56 = .ok (.lookupswitch 60 #[(0, 28), (1, 44)], 28) := by decide +kernel
theorem dX3_see_84 : decode cX3_see 84 = .ok (.aload_n 0, 1) := by decide +kernel
theorem dX3_see_85 : decode cX3_see 85 = .ok (.getfield 18, 3) := by decide +kernel
theorem dX3_see_88 : decode cX3_see 88 = .ok (.iload 4, 2) := by decide +kernel
theorem dX3_see_90 : decode cX3_see 90 = .ok (.dup2, 1) := by decide +kernel
theorem dX3_see_91 : decode cX3_see 91 = .ok (.iaload, 1) := by decide +kernel
theorem dX3_see_92 : decode cX3_see 92 = .ok (.iconst 1, 1) := by decide +kernel
theorem dX3_see_93 : decode cX3_see 93 = .ok (.iload_n 3, 1) := by decide +kernel
theorem dX3_see_94 : decode cX3_see 94 = .ok (.ishl, 1) := by decide +kernel
theorem dX3_see_95 : decode cX3_see 95 = .ok (.ior, 1) := by decide +kernel
theorem dX3_see_96 : decode cX3_see 96 = .ok (.iastore, 1) := by decide +kernel
theorem dX3_see_97 : decode cX3_see 97 = .ok (.goto 34, 3) := by decide +kernel
theorem dX3_see_100 : decode cX3_see 100 = .ok (.aload_n 0, 1) := by decide +kernel
theorem dX3_see_101 : decode cX3_see 101 = .ok (.getfield 22, 3) := by decide +kernel
theorem dX3_see_104 : decode cX3_see 104 = .ok (.iload_n 3, 1) := by decide +kernel
theorem dX3_see_105 : decode cX3_see 105 = .ok (.dup2, 1) := by decide +kernel
theorem dX3_see_106 : decode cX3_see 106 = .ok (.iaload, 1) := by decide +kernel
theorem dX3_see_107 : decode cX3_see 107 = .ok (.iconst 1, 1) := by decide +kernel
theorem dX3_see_108 : decode cX3_see 108 = .ok (.iload 4, 2) := by decide +kernel
theorem dX3_see_110 : decode cX3_see 110 = .ok (.ishl, 1) := by decide +kernel
theorem dX3_see_111 : decode cX3_see 111 = .ok (.iand, 1) := by decide +kernel
theorem dX3_see_112 : decode cX3_see 112 = .ok (.iastore, 1) := by decide +kernel
theorem dX3_see_113 : decode cX3_see 113 = .ok (.goto 18, 3) := by decide +kernel
theorem dX3_see_116 : decode cX3_see 116 = .ok (.aload_n 0, 1) := by decide +kernel
theorem dX3_see_117 : decode cX3_see 117 = .ok (.getfield 22, 3) := by decide +kernel
theorem dX3_see_120 : decode cX3_see 120 = .ok (.iload_n 3, 1) := by decide +kernel
theorem dX3_see_121 : decode cX3_see 121 = .ok (.dup2, 1) := by decide +kernel
theorem dX3_see_122 : decode cX3_see 122 = .ok (.iaload, 1) := by decide +kernel
theorem dX3_see_123 : decode cX3_see 123 = .ok (.iconst 1, 1) := by decide +kernel
theorem dX3_see_124 : decode cX3_see 124 = .ok (.iload 4, 2) := by decide +kernel
theorem dX3_see_126 : decode cX3_see 126 = .ok (.ishl, 1) := by decide +kernel
theorem dX3_see_127 : decode cX3_see 127 = .ok (.iconst (-1), 1) := by decide +kernel
theorem dX3_see_128 : decode cX3_see 128 = .ok (.ixor, 1) := by decide +kernel
theorem dX3_see_129 : decode cX3_see 129 = .ok (.iand, 1) := by decide +kernel
theorem dX3_see_130 : decode cX3_see 130 = .ok (.iastore, 1) := by decide +kernel
theorem dX3_see_131 : decode cX3_see 131 = .ok (.iinc 2 1, 3) := by decide +kernel
theorem dX3_see_134 : decode cX3_see 134 = .ok (.goto (-132), 3) := by decide +kernel
theorem dX3_see_137 : decode cX3_see 137 = .ok (.return_, 1) := by decide +kernel
theorem dX3_mayCome_0 : decode cX3_mayCome 0 = .ok (.iload_n 2, 1) := by decide +kernel
theorem dX3_mayCome_1 : decode cX3_mayCome 1 = .ok (.iload_n 1, 1) := by decide +kernel
theorem dX3_mayCome_2 : decode cX3_mayCome 2 = .ok (.ishr, 1) := by decide +kernel
theorem dX3_mayCome_3 : decode cX3_mayCome 3 = .ok (.iconst 1, 1) := by decide +kernel
theorem dX3_mayCome_4 : decode cX3_mayCome 4 = .ok (.iand, 1) := by decide +kernel
theorem dX3_mayCome_5 : decode cX3_mayCome 5 = .ok (.ifCond .ne 37, 3) := by decide +kernel
theorem dX3_mayCome_8 : decode cX3_mayCome 8 = .ok (.aload_n 0, 1) := by decide +kernel
theorem dX3_mayCome_9 : decode cX3_mayCome 9 = .ok (.getfield 18, 3) := by decide +kernel
theorem dX3_mayCome_12 : decode cX3_mayCome 12 = .ok (.iload_n 1, 1) := by decide +kernel
theorem dX3_mayCome_13 : decode cX3_mayCome 13 = .ok (.iaload, 1) := by decide +kernel
theorem dX3_mayCome_14 : decode cX3_mayCome 14 = .ok (.iload_n 2, 1) := by decide +kernel
theorem dX3_mayCome_15 : decode cX3_mayCome 15 = .ok (.iconst (-1), 1) := by decide +kernel
theorem dX3_mayCome_16 : decode cX3_mayCome 16 = .ok (.ixor, 1) := by decide +kernel
theorem dX3_mayCome_17 : decode cX3_mayCome 17 = .ok (.iand, 1) := by decide +kernel
theorem dX3_mayCome_18 : decode cX3_mayCome 18 = .ok (.ifCond .ne 24, 3) := by decide +kernel
theorem dX3_mayCome_21 : decode cX3_mayCome 21 = .ok (.aload_n 0, 1) := by decide +kernel
theorem dX3_mayCome_22 : decode cX3_mayCome 22 = .ok (.getfield 22, 3) := by decide +kernel
theorem dX3_mayCome_25 : decode cX3_mayCome 25 = .ok (.iload_n 1, 1) := by decide +kernel
theorem dX3_mayCome_26 : decode cX3_mayCome 26 = .ok (.iaload, 1) := by decide +kernel
theorem dX3_mayCome_27 : decode cX3_mayCome 27 = .ok (.iload_n 2, 1) := by decide +kernel
theorem dX3_mayCome_28 : decode cX3_mayCome 28 = .ok (.invokestatic 77, 3) := by decide +kernel
theorem dX3_mayCome_31 : decode cX3_mayCome 31 = .ok (.ishr, 1) := by decide +kernel
theorem dX3_mayCome_32 : decode cX3_mayCome 32 = .ok (.iconst 1, 1) := by decide +kernel
theorem dX3_mayCome_33 : decode cX3_mayCome 33 = .ok (.iand, 1) := by decide +kernel
theorem dX3_mayCome_34 : decode cX3_mayCome 34 = .ok (.iconst 1, 1) := by decide +kernel
theorem dX3_mayCome_35 : decode cX3_mayCome 35 = .ok (.if_icmp .ne 7, 3) := by decide +kernel
theorem dX3_mayCome_38 : decode cX3_mayCome 38 = .ok (.iconst 1, 1) := by decide +kernel
theorem dX3_mayCome_39 : decode cX3_mayCome 39 = .ok (.goto 4, 3) := by decide +kernel
theorem dX3_mayCome_42 : decode cX3_mayCome 42 = .ok (.iconst 0, 1) := by decide +kernel
theorem dX3_mayCome_43 : decode cX3_mayCome 43 = .ok (.ireturn, 1) := by decide +kernel
theorem dX3_ways_0 : decode cX3_ways 0 = .ok (.iconst 1, 1) := by decide +kernel
theorem dX3_ways_1 : decode cX3_ways 1 = .ok (.aload_n 0, 1) := by decide +kernel
theorem dX3_ways_2 : decode cX3_ways 2 = .ok (.getfield 47, 3) := by decide +kernel
theorem dX3_ways_5 : decode cX3_ways 5 = .ok (.ishl, 1) := by decide +kernel
theorem dX3_ways_6 : decode cX3_ways 6 = .ok (.iconst 1, 1) := by decide +kernel
theorem dX3_ways_7 : decode cX3_ways 7 = .ok (.isub, 1) := by decide +kernel
theorem dX3_ways_8 : decode cX3_ways 8 = .ok (.istore_n 1, 1) := by decide +kernel
theorem dX3_ways_9 : decode cX3_ways 9 = .ok (.aload_n 0, 1) := by decide +kernel
theorem dX3_ways_10 : decode cX3_ways 10 = .ok (.getfield 37, 3) := by decide +kernel
theorem dX3_ways_13 : decode cX3_ways 13 = .ok (.iconst 0, 1) := by decide +kernel
theorem dX3_ways_14 : decode cX3_ways 14 = .ok (.invokestatic 57, 3) := by decide +kernel
theorem dX3_ways_17 : decode cX3_ways 17 = .ok (.aload_n 0, 1) := by decide +kernel
theorem dX3_ways_18 : decode cX3_ways 18 = .ok (.getfield 37, 3) := by decide +kernel
theorem dX3_ways_21 : decode cX3_ways 21 = .ok (.iconst 0, 1) := by decide +kernel
theorem dX3_ways_22 : decode cX3_ways 22 = .ok (.iconst 1, 1) := by decide +kernel
theorem dX3_ways_23 : decode cX3_ways 23 = .ok (.iastore, 1) := by decide +kernel
theorem dX3_ways_24 : decode cX3_ways 24 = .ok (.iconst 0, 1) := by decide +kernel
theorem dX3_ways_25 : decode cX3_ways 25 = .ok (.istore_n 2, 1) := by decide +kernel
theorem dX3_ways_26 : decode cX3_ways 26 = .ok (.iload_n 2, 1) := by decide +kernel
theorem dX3_ways_27 : decode cX3_ways 27 = .ok (.iload_n 1, 1) := by decide +kernel
theorem dX3_ways_28 : decode cX3_ways 28 = .ok (.if_icmp .ge 65, 3) := by decide +kernel
theorem dX3_ways_31 : decode cX3_ways 31 = .ok (.aload_n 0, 1) := by decide +kernel
theorem dX3_ways_32 : decode cX3_ways 32 = .ok (.getfield 37, 3) := by decide +kernel
theorem dX3_ways_35 : decode cX3_ways 35 = .ok (.iload_n 2, 1) := by decide +kernel
theorem dX3_ways_36 : decode cX3_ways 36 = .ok (.iaload, 1) := by decide +kernel
theorem dX3_ways_37 : decode cX3_ways 37 = .ok (.ifCond .ne 6, 3) := by decide +kernel
theorem dX3_ways_40 : decode cX3_ways 40 = .ok (.goto 47, 3) := by decide +kernel
theorem dX3_ways_43 : decode cX3_ways 43 = .ok (.iconst 0, 1) := by decide +kernel
theorem dX3_ways_44 : decode cX3_ways 44 = .ok (.istore_n 3, 1) := by decide +kernel
theorem dX3_ways_45 : decode cX3_ways 45 = .ok (.iload_n 3, 1) := by decide +kernel
theorem dX3_ways_46 : decode cX3_ways 46 = .ok (.aload_n 0, 1) := by decide +kernel
theorem dX3_ways_47 : decode cX3_ways 47 = .ok (.getfield 47, 3) := by decide +kernel
theorem dX3_ways_50 : decode cX3_ways 50 = .ok (.if_icmp .ge 37, 3) := by decide +kernel
theorem dX3_ways_53 : decode cX3_ways 53 = .ok (.aload_n 0, 1) := by decide +kernel
theorem dX3_ways_54 : decode cX3_ways 54 = .ok (.iload_n 3, 1) := by decide +kernel
theorem dX3_ways_55 : decode cX3_ways 55 = .ok (.iload_n 2, 1) := by decide +kernel
theorem dX3_ways_56 : decode cX3_ways 56 = .ok (.invokevirtual 83, 3) := by decide +kernel
theorem dX3_ways_59 : decode cX3_ways 59 = .ok (.ifCond .eq 22, 3) := by decide +kernel
theorem dX3_ways_62 : decode cX3_ways 62 = .ok (.aload_n 0, 1) := by decide +kernel
theorem dX3_ways_63 : decode cX3_ways 63 = .ok (.getfield 37, 3) := by decide +kernel
theorem dX3_ways_66 : decode cX3_ways 66 = .ok (.iload_n 2, 1) := by decide +kernel
theorem dX3_ways_67 : decode cX3_ways 67 = .ok (.iconst 1, 1) := by decide +kernel
theorem dX3_ways_68 : decode cX3_ways 68 = .ok (.iload_n 3, 1) := by decide +kernel
theorem dX3_ways_69 : decode cX3_ways 69 = .ok (.ishl, 1) := by decide +kernel
theorem dX3_ways_70 : decode cX3_ways 70 = .ok (.ior, 1) := by decide +kernel
theorem dX3_ways_71 : decode cX3_ways 71 = .ok (.dup2, 1) := by decide +kernel
theorem dX3_ways_72 : decode cX3_ways 72 = .ok (.iaload, 1) := by decide +kernel
theorem dX3_ways_73 : decode cX3_ways 73 = .ok (.aload_n 0, 1) := by decide +kernel
theorem dX3_ways_74 : decode cX3_ways 74 = .ok (.getfield 37, 3) := by decide +kernel
theorem dX3_ways_77 : decode cX3_ways 77 = .ok (.iload_n 2, 1) := by decide +kernel
theorem dX3_ways_78 : decode cX3_ways 78 = .ok (.iaload, 1) := by decide +kernel
theorem dX3_ways_79 : decode cX3_ways 79 = .ok (.iadd, 1) := by decide +kernel
theorem dX3_ways_80 : decode cX3_ways 80 = .ok (.iastore, 1) := by decide +kernel
theorem dX3_ways_81 : decode cX3_ways 81 = .ok (.iinc 3 1, 3) := by decide +kernel
theorem dX3_ways_84 : decode cX3_ways 84 = .ok (.goto (-39), 3) := by decide +kernel
theorem dX3_ways_87 : decode cX3_ways 87 = .ok (.iinc 2 1, 3) := by decide +kernel
theorem dX3_ways_90 : decode cX3_ways 90 = .ok (.goto (-64), 3) := by decide +kernel
theorem dX3_ways_93 : decode cX3_ways 93 = .ok (.aload_n 0, 1) := by decide +kernel
theorem dX3_ways_94 : decode cX3_ways 94 = .ok (.getfield 37, 3) := by decide +kernel
theorem dX3_ways_97 : decode cX3_ways 97 = .ok (.iload_n 1, 1) := by decide +kernel
theorem dX3_ways_98 : decode cX3_ways 98 = .ok (.iaload, 1) := by decide +kernel
theorem dX3_ways_99 : decode cX3_ways 99 = .ok (.ireturn, 1) := by decide +kernel
theorem dX3_holds_0 : decode cX3_holds 0 = .ok (.aload_n 0, 1) := by decide +kernel
theorem dX3_holds_1 : decode cX3_holds 1 = .ok (.getfield 12, 3) := by decide +kernel
theorem dX3_holds_4 : decode cX3_holds 4 = .ok (.iload_n 1, 1) := by decide +kernel
theorem dX3_holds_5 : decode cX3_holds 5 = .ok (.invokevirtual 87, 3) := by decide +kernel
theorem dX3_holds_8 : decode cX3_holds 8 = .ok (.ifCond .eq 14, 3) := by decide +kernel
theorem dX3_holds_11 : decode cX3_holds 11 = .ok (.aload_n 0, 1) := by decide +kernel
theorem dX3_holds_12 : decode cX3_holds 12 = .ok (.getfield 12, 3) := by decide +kernel
theorem dX3_holds_15 : decode cX3_holds 15 = .ok (.iload_n 2, 1) := by decide +kernel
theorem dX3_holds_16 : decode cX3_holds 16 = .ok (.invokevirtual 87, 3) := by decide +kernel
theorem dX3_holds_19 : decode cX3_holds 19 = .ok (.ifCond .ne 5, 3) := by decide +kernel
theorem dX3_holds_22 : decode cX3_holds 22 = .ok (.iconst 0, 1) := by decide +kernel
theorem dX3_holds_23 : decode cX3_holds 23 = .ok (.ireturn, 1) := by decide +kernel
theorem dX3_holds_24 : decode cX3_holds 24 = .ok (.aload_n 0, 1) := by decide +kernel
theorem dX3_holds_25 : decode cX3_holds 25 = .ok (.getfield 22, 3) := by decide +kernel
theorem dX3_holds_28 : decode cX3_holds 28 = .ok (.iload_n 1, 1) := by decide +kernel
theorem dX3_holds_29 : decode cX3_holds 29 = .ok (.iaload, 1) := by decide +kernel
theorem dX3_holds_30 : decode cX3_holds 30 = .ok (.istore_n 3, 1) := by decide +kernel
theorem dX3_holds_31 : decode cX3_holds 31 = .ok (.aload_n 0, 1) := by decide +kernel
theorem dX3_holds_32 : decode cX3_holds 32 = .ok (.getfield 22, 3) := by decide +kernel
theorem dX3_holds_35 : decode cX3_holds 35 = .ok (.iload_n 1, 1) := by decide +kernel
theorem dX3_holds_36 : decode cX3_holds 36 = .ok (.iload_n 3, 1) := by decide +kernel
theorem dX3_holds_37 : decode cX3_holds 37 = .ok (.iconst 1, 1) := by decide +kernel
theorem dX3_holds_38 : decode cX3_holds 38 = .ok (.iload_n 2, 1) := by decide +kernel
theorem dX3_holds_39 : decode cX3_holds 39 = .ok (.ishl, 1) := by decide +kernel
theorem dX3_holds_40 : decode cX3_holds 40 = .ok (.iand, 1) := by decide +kernel
theorem dX3_holds_41 : decode cX3_holds 41 = .ok (.iastore, 1) := by decide +kernel
theorem dX3_holds_42 : decode cX3_holds 42 = .ok (.aload_n 0, 1) := by decide +kernel
theorem dX3_holds_43 : decode cX3_holds 43 = .ok (.invokevirtual 91, 3) := by decide +kernel
theorem dX3_holds_46 : decode cX3_holds 46 = .ok (.istore 4, 2) := by decide +kernel
theorem dX3_holds_48 : decode cX3_holds 48 = .ok (.aload_n 0, 1) := by decide +kernel
theorem dX3_holds_49 : decode cX3_holds 49 = .ok (.getfield 22, 3) := by decide +kernel
theorem dX3_holds_52 : decode cX3_holds 52 = .ok (.iload_n 1, 1) := by decide +kernel
theorem dX3_holds_53 : decode cX3_holds 53 = .ok (.iload_n 3, 1) := by decide +kernel
theorem dX3_holds_54 : decode cX3_holds 54 = .ok (.iastore, 1) := by decide +kernel
theorem dX3_holds_55 : decode cX3_holds 55 = .ok (.iload 4, 2) := by decide +kernel
theorem dX3_holds_57 : decode cX3_holds 57 = .ok (.ireturn, 1) := by decide +kernel
theorem dX3_surelyAt_0 : decode cX3_surelyAt 0 = .ok (.iconst 0, 1) := by decide +kernel
theorem dX3_surelyAt_1 : decode cX3_surelyAt 1 = .ok (.istore_n 3, 1) := by decide +kernel
theorem dX3_surelyAt_2 : decode cX3_surelyAt 2 = .ok (.iload_n 3, 1) := by decide +kernel
theorem dX3_surelyAt_3 : decode cX3_surelyAt 3 = .ok (.aload_n 0, 1) := by decide +kernel
theorem dX3_surelyAt_4 : decode cX3_surelyAt 4 = .ok (.getfield 47, 3) := by decide +kernel
theorem dX3_surelyAt_7 : decode cX3_surelyAt 7 = .ok (.if_icmp .ge 21, 3) := by decide +kernel
theorem dX3_surelyAt_10 : decode cX3_surelyAt 10 = .ok (.aload_n 0, 1) := by decide +kernel
theorem dX3_surelyAt_11 : decode cX3_surelyAt 11 = .ok (.iload_n 3, 1) := by decide +kernel
theorem dX3_surelyAt_12 : decode cX3_surelyAt 12 = .ok (.iload_n 1, 1) := by decide +kernel
theorem dX3_surelyAt_13 : decode cX3_surelyAt 13 = .ok (.invokevirtual 95, 3) := by decide +kernel
theorem dX3_surelyAt_16 : decode cX3_surelyAt 16 = .ok (.iload_n 2, 1) := by decide +kernel
theorem dX3_surelyAt_17 : decode cX3_surelyAt 17 = .ok (.if_icmp .ne 5, 3) := by decide +kernel
theorem dX3_surelyAt_20 : decode cX3_surelyAt 20 = .ok (.iload_n 3, 1) := by decide +kernel
theorem dX3_surelyAt_21 : decode cX3_surelyAt 21 = .ok (.ireturn, 1) := by decide +kernel
theorem dX3_surelyAt_22 : decode cX3_surelyAt 22 = .ok (.iinc 3 1, 3) := by decide +kernel
theorem dX3_surelyAt_25 : decode cX3_surelyAt 25 = .ok (.goto (-23), 3) := by decide +kernel
theorem dX3_surelyAt_28 : decode cX3_surelyAt 28 = .ok (.iconst (-1), 1) := by decide +kernel
theorem dX3_surelyAt_29 : decode cX3_surelyAt 29 = .ok (.ireturn, 1) := by decide +kernel
theorem dX3_bestAsked_0 : decode cX3_bestAsked 0 = .ok (.ldc 99, 2) := by decide +kernel
theorem dX3_bestAsked_2 : decode cX3_bestAsked 2 = .ok (.istore_n 2, 1) := by decide +kernel
theorem dX3_bestAsked_3 : decode cX3_bestAsked 3 = .ok (.iconst (-1), 1) := by decide +kernel
theorem dX3_bestAsked_4 : decode cX3_bestAsked 4 = .ok (.istore_n 3, 1) := by decide +kernel
theorem dX3_bestAsked_5 : decode cX3_bestAsked 5 = .ok (.iconst 0, 1) := by decide +kernel
theorem dX3_bestAsked_6 : decode cX3_bestAsked 6 = .ok (.istore 4, 2) := by decide +kernel
theorem dX3_bestAsked_8 : decode cX3_bestAsked 8 = .ok (.iload 4, 2) := by decide +kernel
theorem dX3_bestAsked_10 : decode cX3_bestAsked 10 = .ok (.aload_n 0, 1) := by decide +kernel
theorem dX3_bestAsked_11 : decode cX3_bestAsked 11 = .ok (.getfield 47, 3) := by decide +kernel
theorem dX3_bestAsked_14 : decode cX3_bestAsked 14 = .ok (.if_icmp .ge 97, 3) := by decide +kernel
theorem dX3_bestAsked_17 : decode cX3_bestAsked 17 = .ok (.iload 4, 2) := by decide +kernel
theorem dX3_bestAsked_19 : decode cX3_bestAsked 19 = .ok (.iconst 1, 1) := by decide +kernel
theorem dX3_bestAsked_20 : decode cX3_bestAsked 20 = .ok (.iadd, 1) := by decide +kernel
theorem dX3_bestAsked_21 : decode cX3_bestAsked 21 = .ok (.istore 5, 2) := by decide +kernel
theorem dX3_bestAsked_23 : decode cX3_bestAsked 23 = .ok (.iload 5, 2) := by decide +kernel
theorem dX3_bestAsked_25 : decode cX3_bestAsked 25 = .ok (.aload_n 0, 1) := by decide +kernel
theorem dX3_bestAsked_26 : decode cX3_bestAsked 26 = .ok (.getfield 47, 3) := by decide +kernel
theorem dX3_bestAsked_29 : decode cX3_bestAsked 29 = .ok (.if_icmp .ge 76, 3) := by decide +kernel
theorem dX3_bestAsked_32 : decode cX3_bestAsked 32 = .ok (.aload_n 0, 1) := by decide +kernel
theorem dX3_bestAsked_33 : decode cX3_bestAsked 33 = .ok (.getfield 18, 3) := by decide +kernel
theorem dX3_bestAsked_36 : decode cX3_bestAsked 36 = .ok (.iload 5, 2) := by decide +kernel
theorem dX3_bestAsked_38 : decode cX3_bestAsked 38 = .ok (.iaload, 1) := by decide +kernel
theorem dX3_bestAsked_39 : decode cX3_bestAsked 39 = .ok (.istore 6, 2) := by decide +kernel
theorem dX3_bestAsked_41 : decode cX3_bestAsked 41 = .ok (.aload_n 0, 1) := by decide +kernel
theorem dX3_bestAsked_42 : decode cX3_bestAsked 42 = .ok (.getfield 18, 3) := by decide +kernel
theorem dX3_bestAsked_45 : decode cX3_bestAsked 45 = .ok (.iload 5, 2) := by decide +kernel
theorem dX3_bestAsked_47 : decode cX3_bestAsked 47 = .ok (.iload 6, 2) := by decide +kernel
theorem dX3_bestAsked_49 : decode cX3_bestAsked 49 = .ok (.iconst 1, 1) := by decide +kernel
theorem dX3_bestAsked_50 : decode cX3_bestAsked 50 = .ok (.iload 4, 2) := by decide +kernel
theorem dX3_bestAsked_52 : decode cX3_bestAsked 52 = .ok (.ishl, 1) := by decide +kernel
theorem dX3_bestAsked_53 : decode cX3_bestAsked 53 = .ok (.ior, 1) := by decide +kernel
theorem dX3_bestAsked_54 : decode cX3_bestAsked 54 = .ok (.iastore, 1) := by decide +kernel
theorem dX3_bestAsked_55 : decode cX3_bestAsked 55 = .ok (.aload_n 0, 1) := by decide +kernel
theorem dX3_bestAsked_56 : decode cX3_bestAsked 56 = .ok (.invokevirtual 91, 3) := by decide +kernel
theorem dX3_bestAsked_59 : decode cX3_bestAsked 59 = .ok (.istore 7, 2) := by decide +kernel
theorem dX3_bestAsked_61 : decode cX3_bestAsked 61 = .ok (.aload_n 0, 1) := by decide +kernel
theorem dX3_bestAsked_62 : decode cX3_bestAsked 62 = .ok (.getfield 18, 3) := by decide +kernel
theorem dX3_bestAsked_65 : decode cX3_bestAsked 65 = .ok (.iload 5, 2) := by decide +kernel
theorem dX3_bestAsked_67 : decode cX3_bestAsked 67 = .ok (.iload 6, 2) := by decide +kernel
theorem dX3_bestAsked_69 : decode cX3_bestAsked 69 = .ok (.iastore, 1) := by decide +kernel
theorem dX3_bestAsked_70 : decode cX3_bestAsked 70 = .ok (.iload 7, 2) := by decide +kernel
theorem dX3_bestAsked_72 : decode cX3_bestAsked 72 = .ok (.iload_n 1, 1) := by decide +kernel
theorem dX3_bestAsked_73 : decode cX3_bestAsked 73 = .ok (.iload 7, 2) := by decide +kernel
theorem dX3_bestAsked_75 : decode cX3_bestAsked 75 = .ok (.isub, 1) := by decide +kernel
theorem dX3_bestAsked_76 : decode cX3_bestAsked 76 = .ok (.invokestatic 100, 3) := by decide +kernel
theorem dX3_bestAsked_79 : decode cX3_bestAsked 79 = .ok (.istore 8, 2) := by decide +kernel
theorem dX3_bestAsked_81 : decode cX3_bestAsked 81 = .ok (.iload 8, 2) := by decide +kernel
theorem dX3_bestAsked_83 : decode cX3_bestAsked 83 = .ok (.iload_n 2, 1) := by decide +kernel
theorem dX3_bestAsked_84 : decode cX3_bestAsked 84 = .ok (.if_icmp .ge 15, 3) := by decide +kernel
theorem dX3_bestAsked_87 : decode cX3_bestAsked 87 = .ok (.iload 8, 2) := by decide +kernel
theorem dX3_bestAsked_89 : decode cX3_bestAsked 89 = .ok (.istore_n 2, 1) := by decide +kernel
theorem dX3_bestAsked_90 : decode cX3_bestAsked 90 = .ok (.bipush 9, 2) := by decide +kernel
theorem dX3_bestAsked_92 : decode cX3_bestAsked 92 = .ok (.iload 4, 2) := by decide +kernel
theorem dX3_bestAsked_94 : decode cX3_bestAsked 94 = .ok (.imul, 1) := by decide +kernel
theorem dX3_bestAsked_95 : decode cX3_bestAsked 95 = .ok (.iload 5, 2) := by decide +kernel
theorem dX3_bestAsked_97 : decode cX3_bestAsked 97 = .ok (.iadd, 1) := by decide +kernel
theorem dX3_bestAsked_98 : decode cX3_bestAsked 98 = .ok (.istore_n 3, 1) := by decide +kernel
theorem dX3_bestAsked_99 : decode cX3_bestAsked 99 = .ok (.iinc 5 1, 3) := by decide +kernel
theorem dX3_bestAsked_102 : decode cX3_bestAsked 102 = .ok (.goto (-79), 3) := by decide +kernel
theorem dX3_bestAsked_105 : decode cX3_bestAsked 105 = .ok (.iinc 4 1, 3) := by decide +kernel
theorem dX3_bestAsked_108 : decode cX3_bestAsked 108 = .ok (.goto (-100), 3) := by decide +kernel
theorem dX3_bestAsked_111 : decode cX3_bestAsked 111 = .ok (.iload_n 3, 1) := by decide +kernel
theorem dX3_bestAsked_112 : decode cX3_bestAsked 112 = .ok (.ireturn, 1) := by decide +kernel
theorem dX3_layFirst_0 : decode cX3_layFirst 0 = .ok (.iconst 0, 1) := by decide +kernel
theorem dX3_layFirst_1 : decode cX3_layFirst 1 = .ok (.istore_n 1, 1) := by decide +kernel
theorem dX3_layFirst_2 : decode cX3_layFirst 2 = .ok (.iconst 0, 1) := by decide +kernel
theorem dX3_layFirst_3 : decode cX3_layFirst 3 = .ok (.istore_n 2, 1) := by decide +kernel
theorem dX3_layFirst_4 : decode cX3_layFirst 4 = .ok (.iload_n 2, 1) := by decide +kernel
theorem dX3_layFirst_5 : decode cX3_layFirst 5 = .ok (.aload_n 0, 1) := by decide +kernel
theorem dX3_layFirst_6 : decode cX3_layFirst 6 = .ok (.getfield 47, 3) := by decide +kernel
theorem dX3_layFirst_9 : decode cX3_layFirst 9 = .ok (.if_icmp .ge 57, 3) := by decide +kernel
theorem dX3_layFirst_12 : decode cX3_layFirst 12 = .ok (.iconst 0, 1) := by decide +kernel
theorem dX3_layFirst_13 : decode cX3_layFirst 13 = .ok (.istore_n 3, 1) := by decide +kernel
theorem dX3_layFirst_14 : decode cX3_layFirst 14 = .ok (.iload_n 3, 1) := by decide +kernel
theorem dX3_layFirst_15 : decode cX3_layFirst 15 = .ok (.aload_n 0, 1) := by decide +kernel
theorem dX3_layFirst_16 : decode cX3_layFirst 16 = .ok (.getfield 47, 3) := by decide +kernel
theorem dX3_layFirst_19 : decode cX3_layFirst 19 = .ok (.if_icmp .ge 18, 3) := by decide +kernel
theorem dX3_layFirst_22 : decode cX3_layFirst 22 = .ok (.aload_n 0, 1) := by decide +kernel
theorem dX3_layFirst_23 : decode cX3_layFirst 23 = .ok (.iload_n 3, 1) := by decide +kernel
theorem dX3_layFirst_24 : decode cX3_layFirst 24 = .ok (.iload_n 1, 1) := by decide +kernel
theorem dX3_layFirst_25 : decode cX3_layFirst 25 = .ok (.invokevirtual 83, 3) := by decide +kernel
theorem dX3_layFirst_28 : decode cX3_layFirst 28 = .ok (.ifCond .ne 9, 3) := by decide +kernel
theorem dX3_layFirst_31 : decode cX3_layFirst 31 = .ok (.iinc 3 1, 3) := by decide +kernel
theorem dX3_layFirst_34 : decode cX3_layFirst 34 = .ok (.goto (-20), 3) := by decide +kernel
theorem dX3_layFirst_37 : decode cX3_layFirst 37 = .ok (.iload_n 3, 1) := by decide +kernel
theorem dX3_layFirst_38 : decode cX3_layFirst 38 = .ok (.aload_n 0, 1) := by decide +kernel
theorem dX3_layFirst_39 : decode cX3_layFirst 39 = .ok (.getfield 47, 3) := by decide +kernel
theorem dX3_layFirst_42 : decode cX3_layFirst 42 = .ok (.if_icmp .ne 5, 3) := by decide +kernel
theorem dX3_layFirst_45 : decode cX3_layFirst 45 = .ok (.iconst 0, 1) := by decide +kernel
theorem dX3_layFirst_46 : decode cX3_layFirst 46 = .ok (.ireturn, 1) := by decide +kernel
theorem dX3_layFirst_47 : decode cX3_layFirst 47 = .ok (.aload_n 0, 1) := by decide +kernel
theorem dX3_layFirst_48 : decode cX3_layFirst 48 = .ok (.getfield 25, 3) := by decide +kernel
theorem dX3_layFirst_51 : decode cX3_layFirst 51 = .ok (.iload_n 2, 1) := by decide +kernel
theorem dX3_layFirst_52 : decode cX3_layFirst 52 = .ok (.iload_n 3, 1) := by decide +kernel
theorem dX3_layFirst_53 : decode cX3_layFirst 53 = .ok (.iastore, 1) := by decide +kernel
theorem dX3_layFirst_54 : decode cX3_layFirst 54 = .ok (.iload_n 1, 1) := by decide +kernel
theorem dX3_layFirst_55 : decode cX3_layFirst 55 = .ok (.iconst 1, 1) := by decide +kernel
theorem dX3_layFirst_56 : decode cX3_layFirst 56 = .ok (.iload_n 3, 1) := by decide +kernel
theorem dX3_layFirst_57 : decode cX3_layFirst 57 = .ok (.ishl, 1) := by decide +kernel
theorem dX3_layFirst_58 : decode cX3_layFirst 58 = .ok (.ior, 1) := by decide +kernel
theorem dX3_layFirst_59 : decode cX3_layFirst 59 = .ok (.istore_n 1, 1) := by decide +kernel
theorem dX3_layFirst_60 : decode cX3_layFirst 60 = .ok (.iinc 2 1, 3) := by decide +kernel
theorem dX3_layFirst_63 : decode cX3_layFirst 63 = .ok (.goto (-59), 3) := by decide +kernel
theorem dX3_layFirst_66 : decode cX3_layFirst 66 = .ok (.iconst 1, 1) := by decide +kernel
theorem dX3_layFirst_67 : decode cX3_layFirst 67 = .ok (.ireturn, 1) := by decide +kernel
theorem dX3_fewestBursts_0 : decode cX3_fewestBursts 0 = .ok (.aload_n 0, 1) := by decide +kernel
theorem dX3_fewestBursts_1 : decode cX3_fewestBursts 1 = .ok (.invokevirtual 105, 3) := by decide +kernel
theorem dX3_fewestBursts_4 : decode cX3_fewestBursts 4 = .ok (.iconst 1, 1) := by decide +kernel
theorem dX3_fewestBursts_5 : decode cX3_fewestBursts 5 = .ok (.aload_n 0, 1) := by decide +kernel
theorem dX3_fewestBursts_6 : decode cX3_fewestBursts 6 = .ok (.getfield 47, 3) := by decide +kernel
theorem dX3_fewestBursts_9 : decode cX3_fewestBursts 9 = .ok (.ishl, 1) := by decide +kernel
theorem dX3_fewestBursts_10 : decode cX3_fewestBursts 10 = .ok (.iconst 1, 1) := by decide +kernel
theorem dX3_fewestBursts_11 : decode cX3_fewestBursts 11 = .ok (.isub, 1) := by decide +kernel
theorem dX3_fewestBursts_12 : decode cX3_fewestBursts 12 = .ok (.istore_n 1, 1) := by decide +kernel
theorem dX3_fewestBursts_13 : decode cX3_fewestBursts 13 = .ok (.iload_n 1, 1) := by decide +kernel
theorem dX3_fewestBursts_14 : decode cX3_fewestBursts 14 = .ok (.istore_n 2, 1) := by decide +kernel
theorem dX3_fewestBursts_15 : decode cX3_fewestBursts 15 = .ok (.iload_n 2, 1) := by decide +kernel
theorem dX3_fewestBursts_16 : decode cX3_fewestBursts 16 = .ok (.ifCond .lt 68, 3) := by decide +kernel
theorem dX3_fewestBursts_19 : decode cX3_fewestBursts 19 = .ok (.iload_n 2, 1) := by decide +kernel
theorem dX3_fewestBursts_20 : decode cX3_fewestBursts 20 = .ok (.iload_n 1, 1) := by decide +kernel
theorem dX3_fewestBursts_21 : decode cX3_fewestBursts 21 = .ok (.if_icmp .ne 7, 3) := by decide +kernel
theorem dX3_fewestBursts_24 : decode cX3_fewestBursts 24 = .ok (.iconst 0, 1) := by decide +kernel
theorem dX3_fewestBursts_25 : decode cX3_fewestBursts 25 = .ok (.goto 5, 3) := by decide +kernel
theorem dX3_fewestBursts_28 : decode cX3_fewestBursts 28 = .ok (.ldc 99, 2) := by decide +kernel
theorem dX3_fewestBursts_30 : decode cX3_fewestBursts 30 = .ok (.istore_n 3, 1) := by decide +kernel
theorem dX3_fewestBursts_31 : decode cX3_fewestBursts 31 = .ok (.iconst 0, 1) := by decide +kernel
theorem dX3_fewestBursts_32 : decode cX3_fewestBursts 32 = .ok (.istore 4, 2) := by decide +kernel
theorem dX3_fewestBursts_34 : decode cX3_fewestBursts 34 = .ok (.iload 4, 2) := by decide +kernel
theorem dX3_fewestBursts_36 : decode cX3_fewestBursts 36 = .ok (.aload_n 0, 1) := by decide +kernel
theorem dX3_fewestBursts_37 : decode cX3_fewestBursts 37 = .ok (.getfield 47, 3) := by decide +kernel
theorem dX3_fewestBursts_40 : decode cX3_fewestBursts 40 = .ok (.if_icmp .ge 31, 3) := by decide +kernel
theorem dX3_fewestBursts_43 : decode cX3_fewestBursts 43 = .ok (.aload_n 0, 1) := by decide +kernel
theorem dX3_fewestBursts_44 : decode cX3_fewestBursts 44 = .ok (.iload 4, 2) := by decide +kernel
theorem dX3_fewestBursts_46 : decode cX3_fewestBursts 46 = .ok (.iload_n 2, 1) := by decide +kernel
theorem dX3_fewestBursts_47 : decode cX3_fewestBursts 47 = .ok (.invokevirtual 83, 3) := by decide +kernel
theorem dX3_fewestBursts_50 : decode cX3_fewestBursts 50 = .ok (.ifCond .eq 15, 3) := by decide +kernel
theorem dX3_fewestBursts_53 : decode cX3_fewestBursts 53 = .ok (.iload_n 3, 1) := by decide +kernel
theorem dX3_fewestBursts_54 : decode cX3_fewestBursts 54 = .ok (.aload_n 0, 1) := by decide +kernel
theorem dX3_fewestBursts_55 : decode cX3_fewestBursts 55 = .ok (.iload 4, 2) := by decide +kernel
theorem dX3_fewestBursts_57 : decode cX3_fewestBursts 57 = .ok (.iload_n 2, 1) := by decide +kernel
theorem dX3_fewestBursts_58 : decode cX3_fewestBursts 58 = .ok (.invokevirtual 108, 3) := by decide +kernel
theorem dX3_fewestBursts_61 : decode cX3_fewestBursts 61 = .ok (.invokestatic 111, 3) := by decide +kernel
theorem dX3_fewestBursts_64 : decode cX3_fewestBursts 64 = .ok (.istore_n 3, 1) := by decide +kernel
theorem dX3_fewestBursts_65 : decode cX3_fewestBursts 65 = .ok (.iinc 4 1, 3) := by decide +kernel
theorem dX3_fewestBursts_68 : decode cX3_fewestBursts 68 = .ok (.goto (-34), 3) := by decide +kernel
theorem dX3_fewestBursts_71 : decode cX3_fewestBursts 71 = .ok (.aload_n 0, 1) := by decide +kernel
theorem dX3_fewestBursts_72 : decode cX3_fewestBursts 72 = .ok (.getfield 37, 3) := by decide +kernel
theorem dX3_fewestBursts_75 : decode cX3_fewestBursts 75 = .ok (.iload_n 2, 1) := by decide +kernel
theorem dX3_fewestBursts_76 : decode cX3_fewestBursts 76 = .ok (.iload_n 3, 1) := by decide +kernel
theorem dX3_fewestBursts_77 : decode cX3_fewestBursts 77 = .ok (.iastore, 1) := by decide +kernel
theorem dX3_fewestBursts_78 : decode cX3_fewestBursts 78 = .ok (.iinc 2 (-1), 3) := by decide +kernel
theorem dX3_fewestBursts_81 : decode cX3_fewestBursts 81 = .ok (.goto (-66), 3) := by decide +kernel
theorem dX3_fewestBursts_84 : decode cX3_fewestBursts 84 = .ok (.iconst 0, 1) := by decide +kernel
theorem dX3_fewestBursts_85 : decode cX3_fewestBursts 85 = .ok (.istore_n 2, 1) := by decide +kernel
theorem dX3_fewestBursts_86 : decode cX3_fewestBursts 86 = .ok (.iconst 0, 1) := by decide +kernel
theorem dX3_fewestBursts_87 : decode cX3_fewestBursts 87 = .ok (.istore_n 3, 1) := by decide +kernel
theorem dX3_fewestBursts_88 : decode cX3_fewestBursts 88 = .ok (.iload_n 3, 1) := by decide +kernel
theorem dX3_fewestBursts_89 : decode cX3_fewestBursts 89 = .ok (.aload_n 0, 1) := by decide +kernel
theorem dX3_fewestBursts_90 : decode cX3_fewestBursts 90 = .ok (.getfield 47, 3) := by decide +kernel
theorem dX3_fewestBursts_93 : decode cX3_fewestBursts 93 = .ok (.if_icmp .ge 71, 3) := by decide +kernel
theorem dX3_fewestBursts_96 : decode cX3_fewestBursts 96 = .ok (.iconst 0, 1) := by decide +kernel
theorem dX3_fewestBursts_97 : decode cX3_fewestBursts 97 = .ok (.istore 4, 2) := by decide +kernel
theorem dX3_fewestBursts_99 : decode cX3_fewestBursts 99 = .ok (.iload 4, 2) := by decide +kernel
theorem dX3_fewestBursts_101 : decode cX3_fewestBursts 101 = .ok (.aload_n 0, 1) := by decide +kernel
theorem dX3_fewestBursts_102 : decode cX3_fewestBursts 102 = .ok (.getfield 47, 3) := by decide +kernel
theorem dX3_fewestBursts_105 : decode cX3_fewestBursts 105 = .ok (.if_icmp .ge 53, 3) := by decide +kernel
theorem dX3_fewestBursts_108 : decode cX3_fewestBursts 108 = .ok (.aload_n 0, 1) := by decide +kernel
theorem dX3_fewestBursts_109 : decode cX3_fewestBursts 109 = .ok (.iload 4, 2) := by decide +kernel
theorem dX3_fewestBursts_111 : decode cX3_fewestBursts 111 = .ok (.iload_n 2, 1) := by decide +kernel
theorem dX3_fewestBursts_112 : decode cX3_fewestBursts 112 = .ok (.invokevirtual 83, 3) := by decide +kernel
theorem dX3_fewestBursts_115 : decode cX3_fewestBursts 115 = .ok (.ifCond .eq 37, 3) := by decide +kernel
theorem dX3_fewestBursts_118 : decode cX3_fewestBursts 118 = .ok (.aload_n 0, 1) := by decide +kernel
theorem dX3_fewestBursts_119 : decode cX3_fewestBursts 119 = .ok (.iload 4, 2) := by decide +kernel
theorem dX3_fewestBursts_121 : decode cX3_fewestBursts 121 = .ok (.iload_n 2, 1) := by decide +kernel
theorem dX3_fewestBursts_122 : decode cX3_fewestBursts 122 = .ok (.invokevirtual 108, 3) := by decide +kernel
theorem dX3_fewestBursts_125 : decode cX3_fewestBursts 125 = .ok (.aload_n 0, 1) := by decide +kernel
theorem dX3_fewestBursts_126 : decode cX3_fewestBursts 126 = .ok (.getfield 37, 3) := by decide +kernel
theorem dX3_fewestBursts_129 : decode cX3_fewestBursts 129 = .ok (.iload_n 2, 1) := by decide +kernel
theorem dX3_fewestBursts_130 : decode cX3_fewestBursts 130 = .ok (.iaload, 1) := by decide +kernel
theorem dX3_fewestBursts_131 : decode cX3_fewestBursts 131 = .ok (.if_icmp .ne 21, 3) := by decide +kernel
theorem dX3_fewestBursts_134 : decode cX3_fewestBursts 134 = .ok (.aload_n 0, 1) := by decide +kernel
theorem dX3_fewestBursts_135 : decode cX3_fewestBursts 135 = .ok (.getfield 25, 3) := by decide +kernel
theorem dX3_fewestBursts_138 : decode cX3_fewestBursts 138 = .ok (.iload_n 3, 1) := by decide +kernel
theorem dX3_fewestBursts_139 : decode cX3_fewestBursts 139 = .ok (.iload 4, 2) := by decide +kernel
theorem dX3_fewestBursts_141 : decode cX3_fewestBursts 141 = .ok (.iastore, 1) := by decide +kernel
theorem dX3_fewestBursts_142 : decode cX3_fewestBursts 142 = .ok (.iload_n 2, 1) := by decide +kernel
theorem dX3_fewestBursts_143 : decode cX3_fewestBursts 143 = .ok (.iconst 1, 1) := by decide +kernel
theorem dX3_fewestBursts_144 : decode cX3_fewestBursts 144 = .ok (.iload 4, 2) := by decide +kernel
theorem dX3_fewestBursts_146 : decode cX3_fewestBursts 146 = .ok (.ishl, 1) := by decide +kernel
theorem dX3_fewestBursts_147 : decode cX3_fewestBursts 147 = .ok (.ior, 1) := by decide +kernel
theorem dX3_fewestBursts_148 : decode cX3_fewestBursts 148 = .ok (.istore_n 2, 1) := by decide +kernel
theorem dX3_fewestBursts_149 : decode cX3_fewestBursts 149 = .ok (.goto 9, 3) := by decide +kernel
theorem dX3_fewestBursts_152 : decode cX3_fewestBursts 152 = .ok (.iinc 4 1, 3) := by decide +kernel
theorem dX3_fewestBursts_155 : decode cX3_fewestBursts 155 = .ok (.goto (-56), 3) := by decide +kernel
theorem dX3_fewestBursts_158 : decode cX3_fewestBursts 158 = .ok (.iinc 3 1, 3) := by decide +kernel
theorem dX3_fewestBursts_161 : decode cX3_fewestBursts 161 = .ok (.goto (-73), 3) := by decide +kernel
theorem dX3_fewestBursts_164 : decode cX3_fewestBursts 164 = .ok (.aload_n 0, 1) := by decide +kernel
theorem dX3_fewestBursts_165 : decode cX3_fewestBursts 165 = .ok (.getfield 37, 3) := by decide +kernel
theorem dX3_fewestBursts_168 : decode cX3_fewestBursts 168 = .ok (.iconst 0, 1) := by decide +kernel
theorem dX3_fewestBursts_169 : decode cX3_fewestBursts 169 = .ok (.iaload, 1) := by decide +kernel
theorem dX3_fewestBursts_170 : decode cX3_fewestBursts 170 = .ok (.ireturn, 1) := by decide +kernel
theorem dX3_sumGrowthBehind_0 : decode cX3_sumGrowthBehind 0 = .ok (.iconst 0, 1) := by decide +kernel
theorem dX3_sumGrowthBehind_1 : decode cX3_sumGrowthBehind 1 = .ok (.istore_n 1, 1) := by decide +kernel
theorem dX3_sumGrowthBehind_2 : decode cX3_sumGrowthBehind 2 = .ok (.bipush 99, 2) := by decide +kernel
theorem dX3_sumGrowthBehind_4 : decode cX3_sumGrowthBehind 4 = .ok (.istore_n 2, 1) := by decide +kernel
theorem dX3_sumGrowthBehind_5 : decode cX3_sumGrowthBehind 5 = .ok (.iload_n 2, 1) := by decide +kernel
theorem dX3_sumGrowthBehind_6 : decode cX3_sumGrowthBehind 6 = .ok (.ifCond .lt 28, 3) := by decide +kernel
theorem dX3_sumGrowthBehind_9 : decode cX3_sumGrowthBehind 9 = .ok (.aload_n 0, 1) := by decide +kernel
theorem dX3_sumGrowthBehind_10 : decode cX3_sumGrowthBehind 10 = .ok (.getfield 34, 3) := by decide +kernel
theorem dX3_sumGrowthBehind_13 : decode cX3_sumGrowthBehind 13 = .ok (.iload_n 2, 1) := by decide +kernel
theorem dX3_sumGrowthBehind_14 : decode cX3_sumGrowthBehind 14 = .ok (.iload_n 1, 1) := by decide +kernel
theorem dX3_sumGrowthBehind_15 : decode cX3_sumGrowthBehind 15 = .ok (.iastore, 1) := by decide +kernel
theorem dX3_sumGrowthBehind_16 : decode cX3_sumGrowthBehind 16 = .ok (.iload_n 1, 1) := by decide +kernel
theorem dX3_sumGrowthBehind_17 : decode cX3_sumGrowthBehind 17 = .ok (.aload_n 0, 1) := by decide +kernel
theorem dX3_sumGrowthBehind_18 : decode cX3_sumGrowthBehind 18 = .ok (.getfield 12, 3) := by decide +kernel
theorem dX3_sumGrowthBehind_21 : decode cX3_sumGrowthBehind 21 = .ok (.getfield 114, 3) := by decide +kernel
theorem dX3_sumGrowthBehind_24 : decode cX3_sumGrowthBehind 24 = .ok (.iload_n 2, 1) := by decide +kernel
theorem dX3_sumGrowthBehind_25 : decode cX3_sumGrowthBehind 25 = .ok (.iaload, 1) := by decide +kernel
theorem dX3_sumGrowthBehind_26 : decode cX3_sumGrowthBehind 26 = .ok (.iadd, 1) := by decide +kernel
theorem dX3_sumGrowthBehind_27 : decode cX3_sumGrowthBehind 27 = .ok (.istore_n 1, 1) := by decide +kernel
theorem dX3_sumGrowthBehind_28 : decode cX3_sumGrowthBehind 28 = .ok (.iinc 2 (-1), 3) := by decide +kernel
theorem dX3_sumGrowthBehind_31 : decode cX3_sumGrowthBehind 31 = .ok (.goto (-26), 3) := by decide +kernel
theorem dX3_sumGrowthBehind_34 : decode cX3_sumGrowthBehind 34 = .ok (.return_, 1) := by decide +kernel
theorem dX3_burstsFrom_0 : decode cX3_burstsFrom 0 = .ok (.iload_n 2, 1) := by decide +kernel
theorem dX3_burstsFrom_1 : decode cX3_burstsFrom 1 = .ok (.iconst 1, 1) := by decide +kernel
theorem dX3_burstsFrom_2 : decode cX3_burstsFrom 2 = .ok (.iload_n 1, 1) := by decide +kernel
theorem dX3_burstsFrom_3 : decode cX3_burstsFrom 3 = .ok (.ishl, 1) := by decide +kernel
theorem dX3_burstsFrom_4 : decode cX3_burstsFrom 4 = .ok (.ior, 1) := by decide +kernel
theorem dX3_burstsFrom_5 : decode cX3_burstsFrom 5 = .ok (.istore_n 3, 1) := by decide +kernel
theorem dX3_burstsFrom_6 : decode cX3_burstsFrom 6 = .ok (.aload_n 0, 1) := by decide +kernel
theorem dX3_burstsFrom_7 : decode cX3_burstsFrom 7 = .ok (.getfield 12, 3) := by decide +kernel
theorem dX3_burstsFrom_10 : decode cX3_burstsFrom 10 = .ok (.iload_n 3, 1) := by decide +kernel
theorem dX3_burstsFrom_11 : decode cX3_burstsFrom 11 = .ok (.invokevirtual 117, 3) := by decide +kernel
theorem dX3_burstsFrom_14 : decode cX3_burstsFrom 14 = .ok (.aload_n 0, 1) := by decide +kernel
theorem dX3_burstsFrom_15 : decode cX3_burstsFrom 15 = .ok (.getfield 12, 3) := by decide +kernel
theorem dX3_burstsFrom_18 : decode cX3_burstsFrom 18 = .ok (.getfield 120, 3) := by decide +kernel
theorem dX3_burstsFrom_21 : decode cX3_burstsFrom 21 = .ok (.invokestatic 123, 3) := by decide +kernel
theorem dX3_burstsFrom_24 : decode cX3_burstsFrom 24 = .ok (.iconst 1, 1) := by decide +kernel
theorem dX3_burstsFrom_25 : decode cX3_burstsFrom 25 = .ok (.isub, 1) := by decide +kernel
theorem dX3_burstsFrom_26 : decode cX3_burstsFrom 26 = .ok (.istore 4, 2) := by decide +kernel
theorem dX3_burstsFrom_28 : decode cX3_burstsFrom 28 = .ok (.iload 4, 2) := by decide +kernel
theorem dX3_burstsFrom_30 : decode cX3_burstsFrom 30 = .ok (.ifCond .lt 29, 3) := by decide +kernel
theorem dX3_burstsFrom_33 : decode cX3_burstsFrom 33 = .ok (.iload 4, 2) := by decide +kernel
theorem dX3_burstsFrom_35 : decode cX3_burstsFrom 35 = .ok (.bipush 100, 2) := by decide +kernel
theorem dX3_burstsFrom_37 : decode cX3_burstsFrom 37 = .ok (.if_icmp .ge 22, 3) := by decide +kernel
theorem dX3_burstsFrom_40 : decode cX3_burstsFrom 40 = .ok (.aload_n 0, 1) := by decide +kernel
theorem dX3_burstsFrom_41 : decode cX3_burstsFrom 41 = .ok (.getfield 34, 3) := by decide +kernel
theorem dX3_burstsFrom_44 : decode cX3_burstsFrom 44 = .ok (.iload 4, 2) := by decide +kernel
theorem dX3_burstsFrom_46 : decode cX3_burstsFrom 46 = .ok (.iaload, 1) := by decide +kernel
theorem dX3_burstsFrom_47 : decode cX3_burstsFrom 47 = .ok (.aload_n 0, 1) := by decide +kernel
theorem dX3_burstsFrom_48 : decode cX3_burstsFrom 48 = .ok (.getfield 12, 3) := by decide +kernel
theorem dX3_burstsFrom_51 : decode cX3_burstsFrom 51 = .ok (.getfield 126, 3) := by decide +kernel
theorem dX3_burstsFrom_54 : decode cX3_burstsFrom 54 = .ok (.iload_n 1, 1) := by decide +kernel
theorem dX3_burstsFrom_55 : decode cX3_burstsFrom 55 = .ok (.iaload, 1) := by decide +kernel
theorem dX3_burstsFrom_56 : decode cX3_burstsFrom 56 = .ok (.if_icmp .gt 7, 3) := by decide +kernel
theorem dX3_burstsFrom_59 : decode cX3_burstsFrom 59 = .ok (.iconst 1, 1) := by decide +kernel
theorem dX3_burstsFrom_60 : decode cX3_burstsFrom 60 = .ok (.goto 4, 3) := by decide +kernel
theorem dX3_burstsFrom_63 : decode cX3_burstsFrom 63 = .ok (.iconst 0, 1) := by decide +kernel
theorem dX3_burstsFrom_64 : decode cX3_burstsFrom 64 = .ok (.istore 5, 2) := by decide +kernel
theorem dX3_burstsFrom_66 : decode cX3_burstsFrom 66 = .ok (.aload_n 0, 1) := by decide +kernel
theorem dX3_burstsFrom_67 : decode cX3_burstsFrom 67 = .ok (.getfield 37, 3) := by decide +kernel
theorem dX3_burstsFrom_70 : decode cX3_burstsFrom 70 = .ok (.iload_n 3, 1) := by decide +kernel
theorem dX3_burstsFrom_71 : decode cX3_burstsFrom 71 = .ok (.iaload, 1) := by decide +kernel
theorem dX3_burstsFrom_72 : decode cX3_burstsFrom 72 = .ok (.iload 5, 2) := by decide +kernel
theorem dX3_burstsFrom_74 : decode cX3_burstsFrom 74 = .ok (.ifCond .eq 7, 3) := by decide +kernel
theorem dX3_burstsFrom_77 : decode cX3_burstsFrom 77 = .ok (.iconst 0, 1) := by decide +kernel
theorem dX3_burstsFrom_78 : decode cX3_burstsFrom 78 = .ok (.goto 4, 3) := by decide +kernel
theorem dX3_burstsFrom_81 : decode cX3_burstsFrom 81 = .ok (.iconst 1, 1) := by decide +kernel
theorem dX3_burstsFrom_82 : decode cX3_burstsFrom 82 = .ok (.iadd, 1) := by decide +kernel
theorem dX3_burstsFrom_83 : decode cX3_burstsFrom 83 = .ok (.ireturn, 1) := by decide +kernel
theorem dX3_fewestChanges_0 : decode cX3_fewestChanges 0 = .ok (.iconst 1, 1) := by decide +kernel
theorem dX3_fewestChanges_1 : decode cX3_fewestChanges 1 = .ok (.aload_n 0, 1) := by decide +kernel
theorem dX3_fewestChanges_2 : decode cX3_fewestChanges 2 = .ok (.getfield 47, 3) := by decide +kernel
theorem dX3_fewestChanges_5 : decode cX3_fewestChanges 5 = .ok (.ishl, 1) := by decide +kernel
theorem dX3_fewestChanges_6 : decode cX3_fewestChanges 6 = .ok (.iconst 1, 1) := by decide +kernel
theorem dX3_fewestChanges_7 : decode cX3_fewestChanges 7 = .ok (.isub, 1) := by decide +kernel
theorem dX3_fewestChanges_8 : decode cX3_fewestChanges 8 = .ok (.istore_n 1, 1) := by decide +kernel
theorem dX3_fewestChanges_9 : decode cX3_fewestChanges 9 = .ok (.iload_n 1, 1) := by decide +kernel
theorem dX3_fewestChanges_10 : decode cX3_fewestChanges 10 = .ok (.istore_n 2, 1) := by decide +kernel
theorem dX3_fewestChanges_11 : decode cX3_fewestChanges 11 = .ok (.iload_n 2, 1) := by decide +kernel
theorem dX3_fewestChanges_12 : decode cX3_fewestChanges 12 = .ok (.ifCond .le 90, 3) := by decide +kernel
theorem dX3_fewestChanges_15 : decode cX3_fewestChanges 15 = .ok (.iconst 0, 1) := by decide +kernel
theorem dX3_fewestChanges_16 : decode cX3_fewestChanges 16 = .ok (.istore_n 3, 1) := by decide +kernel
theorem dX3_fewestChanges_17 : decode cX3_fewestChanges 17 = .ok (.iload_n 3, 1) := by decide +kernel
theorem dX3_fewestChanges_18 : decode cX3_fewestChanges 18 = .ok (.iconst 4, 1) := by decide +kernel
theorem dX3_fewestChanges_19 : decode cX3_fewestChanges 19 = .ok (.if_icmp .ge 77, 3) := by decide +kernel
theorem dX3_fewestChanges_22 : decode cX3_fewestChanges 22 = .ok (.iload_n 2, 1) := by decide +kernel
theorem dX3_fewestChanges_23 : decode cX3_fewestChanges 23 = .ok (.iload_n 1, 1) := by decide +kernel
theorem dX3_fewestChanges_24 : decode cX3_fewestChanges 24 = .ok (.if_icmp .ne 7, 3) := by decide +kernel
theorem dX3_fewestChanges_27 : decode cX3_fewestChanges 27 = .ok (.iconst 0, 1) := by decide +kernel
theorem dX3_fewestChanges_28 : decode cX3_fewestChanges 28 = .ok (.goto 5, 3) := by decide +kernel
theorem dX3_fewestChanges_31 : decode cX3_fewestChanges 31 = .ok (.ldc 99, 2) := by decide +kernel
theorem dX3_fewestChanges_33 : decode cX3_fewestChanges 33 = .ok (.istore 4, 2) := by decide +kernel
theorem dX3_fewestChanges_35 : decode cX3_fewestChanges 35 = .ok (.iconst 0, 1) := by decide +kernel
theorem dX3_fewestChanges_36 : decode cX3_fewestChanges 36 = .ok (.istore 5, 2) := by decide +kernel
theorem dX3_fewestChanges_38 : decode cX3_fewestChanges 38 = .ok (.iload 5, 2) := by decide +kernel
theorem dX3_fewestChanges_40 : decode cX3_fewestChanges 40 = .ok (.aload_n 0, 1) := by decide +kernel
theorem dX3_fewestChanges_41 : decode cX3_fewestChanges 41 = .ok (.getfield 47, 3) := by decide +kernel
theorem dX3_fewestChanges_44 : decode cX3_fewestChanges 44 = .ok (.if_icmp .ge 34, 3) := by decide +kernel
theorem dX3_fewestChanges_47 : decode cX3_fewestChanges 47 = .ok (.aload_n 0, 1) := by decide +kernel
theorem dX3_fewestChanges_48 : decode cX3_fewestChanges 48 = .ok (.iload 5, 2) := by decide +kernel
theorem dX3_fewestChanges_50 : decode cX3_fewestChanges 50 = .ok (.iload_n 2, 1) := by decide +kernel
theorem dX3_fewestChanges_51 : decode cX3_fewestChanges 51 = .ok (.invokevirtual 83, 3) := by decide +kernel
theorem dX3_fewestChanges_54 : decode cX3_fewestChanges 54 = .ok (.ifCond .eq 18, 3) := by decide +kernel
theorem dX3_fewestChanges_57 : decode cX3_fewestChanges 57 = .ok (.iload 4, 2) := by decide +kernel
theorem dX3_fewestChanges_59 : decode cX3_fewestChanges 59 = .ok (.aload_n 0, 1) := by decide +kernel
theorem dX3_fewestChanges_60 : decode cX3_fewestChanges 60 = .ok (.iload 5, 2) := by decide +kernel
theorem dX3_fewestChanges_62 : decode cX3_fewestChanges 62 = .ok (.iload_n 2, 1) := by decide +kernel
theorem dX3_fewestChanges_63 : decode cX3_fewestChanges 63 = .ok (.iload_n 3, 1) := by decide +kernel
theorem dX3_fewestChanges_64 : decode cX3_fewestChanges 64 = .ok (.invokevirtual 129, 3) := by decide +kernel
theorem dX3_fewestChanges_67 : decode cX3_fewestChanges 67 = .ok (.invokestatic 111, 3) := by decide +kernel
theorem dX3_fewestChanges_70 : decode cX3_fewestChanges 70 = .ok (.istore 4, 2) := by decide +kernel
theorem dX3_fewestChanges_72 : decode cX3_fewestChanges 72 = .ok (.iinc 5 1, 3) := by decide +kernel
theorem dX3_fewestChanges_75 : decode cX3_fewestChanges 75 = .ok (.goto (-37), 3) := by decide +kernel
theorem dX3_fewestChanges_78 : decode cX3_fewestChanges 78 = .ok (.aload_n 0, 1) := by decide +kernel
theorem dX3_fewestChanges_79 : decode cX3_fewestChanges 79 = .ok (.getfield 40, 3) := by decide +kernel
theorem dX3_fewestChanges_82 : decode cX3_fewestChanges 82 = .ok (.iload_n 2, 1) := by decide +kernel
theorem dX3_fewestChanges_83 : decode cX3_fewestChanges 83 = .ok (.iconst 4, 1) := by decide +kernel
theorem dX3_fewestChanges_84 : decode cX3_fewestChanges 84 = .ok (.imul, 1) := by decide +kernel
theorem dX3_fewestChanges_85 : decode cX3_fewestChanges 85 = .ok (.iload_n 3, 1) := by decide +kernel
theorem dX3_fewestChanges_86 : decode cX3_fewestChanges 86 = .ok (.iadd, 1) := by decide +kernel
theorem dX3_fewestChanges_87 : decode cX3_fewestChanges 87 = .ok (.iload 4, 2) := by decide +kernel
theorem dX3_fewestChanges_89 : decode cX3_fewestChanges 89 = .ok (.iastore, 1) := by decide +kernel
theorem dX3_fewestChanges_90 : decode cX3_fewestChanges 90 = .ok (.iinc 3 1, 3) := by decide +kernel
theorem dX3_fewestChanges_93 : decode cX3_fewestChanges 93 = .ok (.goto (-76), 3) := by decide +kernel
theorem dX3_fewestChanges_96 : decode cX3_fewestChanges 96 = .ok (.iinc 2 (-1), 3) := by decide +kernel
theorem dX3_fewestChanges_99 : decode cX3_fewestChanges 99 = .ok (.goto (-88), 3) := by decide +kernel
theorem dX3_fewestChanges_102 : decode cX3_fewestChanges 102 = .ok (.aload_n 0, 1) := by decide +kernel
theorem dX3_fewestChanges_103 : decode cX3_fewestChanges 103 = .ok (.getfield 47, 3) := by decide +kernel
theorem dX3_fewestChanges_106 : decode cX3_fewestChanges 106 = .ok (.ifCond .ne 7, 3) := by decide +kernel
theorem dX3_fewestChanges_109 : decode cX3_fewestChanges 109 = .ok (.iconst 0, 1) := by decide +kernel
theorem dX3_fewestChanges_110 : decode cX3_fewestChanges 110 = .ok (.goto 5, 3) := by decide +kernel
theorem dX3_fewestChanges_113 : decode cX3_fewestChanges 113 = .ok (.ldc 99, 2) := by decide +kernel
theorem dX3_fewestChanges_115 : decode cX3_fewestChanges 115 = .ok (.istore_n 2, 1) := by decide +kernel
theorem dX3_fewestChanges_116 : decode cX3_fewestChanges 116 = .ok (.iconst 0, 1) := by decide +kernel
theorem dX3_fewestChanges_117 : decode cX3_fewestChanges 117 = .ok (.istore_n 3, 1) := by decide +kernel
theorem dX3_fewestChanges_118 : decode cX3_fewestChanges 118 = .ok (.iload_n 3, 1) := by decide +kernel
theorem dX3_fewestChanges_119 : decode cX3_fewestChanges 119 = .ok (.aload_n 0, 1) := by decide +kernel
theorem dX3_fewestChanges_120 : decode cX3_fewestChanges 120 = .ok (.getfield 47, 3) := by decide +kernel
theorem dX3_fewestChanges_123 : decode cX3_fewestChanges 123 = .ok (.if_icmp .ge 30, 3) := by decide +kernel
theorem dX3_fewestChanges_126 : decode cX3_fewestChanges 126 = .ok (.aload_n 0, 1) := by decide +kernel
theorem dX3_fewestChanges_127 : decode cX3_fewestChanges 127 = .ok (.iload_n 3, 1) := by decide +kernel
theorem dX3_fewestChanges_128 : decode cX3_fewestChanges 128 = .ok (.iconst 0, 1) := by decide +kernel
theorem dX3_fewestChanges_129 : decode cX3_fewestChanges 129 = .ok (.invokevirtual 83, 3) := by decide +kernel
theorem dX3_fewestChanges_132 : decode cX3_fewestChanges 132 = .ok (.ifCond .eq 15, 3) := by decide +kernel
theorem dX3_fewestChanges_135 : decode cX3_fewestChanges 135 = .ok (.iload_n 2, 1) := by decide +kernel
theorem dX3_fewestChanges_136 : decode cX3_fewestChanges 136 = .ok (.aload_n 0, 1) := by decide +kernel
theorem dX3_fewestChanges_137 : decode cX3_fewestChanges 137 = .ok (.iload_n 3, 1) := by decide +kernel
theorem dX3_fewestChanges_138 : decode cX3_fewestChanges 138 = .ok (.iconst 0, 1) := by decide +kernel
theorem dX3_fewestChanges_139 : decode cX3_fewestChanges 139 = .ok (.iconst (-1), 1) := by decide +kernel
theorem dX3_fewestChanges_140 : decode cX3_fewestChanges 140 = .ok (.invokevirtual 129, 3) := by decide +kernel
theorem dX3_fewestChanges_143 : decode cX3_fewestChanges 143 = .ok (.invokestatic 111, 3) := by decide +kernel
theorem dX3_fewestChanges_146 : decode cX3_fewestChanges 146 = .ok (.istore_n 2, 1) := by decide +kernel
theorem dX3_fewestChanges_147 : decode cX3_fewestChanges 147 = .ok (.iinc 3 1, 3) := by decide +kernel
theorem dX3_fewestChanges_150 : decode cX3_fewestChanges 150 = .ok (.goto (-32), 3) := by decide +kernel
theorem dX3_fewestChanges_153 : decode cX3_fewestChanges 153 = .ok (.aload_n 0, 1) := by decide +kernel
theorem dX3_fewestChanges_154 : decode cX3_fewestChanges 154 = .ok (.iload_n 2, 1) := by decide +kernel
theorem dX3_fewestChanges_155 : decode cX3_fewestChanges 155 = .ok (.invokevirtual 133, 3) := by decide +kernel
theorem dX3_fewestChanges_158 : decode cX3_fewestChanges 158 = .ok (.iload_n 2, 1) := by decide +kernel
theorem dX3_fewestChanges_159 : decode cX3_fewestChanges 159 = .ok (.ireturn, 1) := by decide +kernel
theorem dX3_layThreaded_0 : decode cX3_layThreaded 0 = .ok (.iconst 0, 1) := by decide +kernel
theorem dX3_layThreaded_1 : decode cX3_layThreaded 1 = .ok (.istore_n 2, 1) := by decide +kernel
theorem dX3_layThreaded_2 : decode cX3_layThreaded 2 = .ok (.iconst (-1), 1) := by decide +kernel
theorem dX3_layThreaded_3 : decode cX3_layThreaded 3 = .ok (.istore_n 3, 1) := by decide +kernel
theorem dX3_layThreaded_4 : decode cX3_layThreaded 4 = .ok (.iload_n 1, 1) := by decide +kernel
theorem dX3_layThreaded_5 : decode cX3_layThreaded 5 = .ok (.istore 4, 2) := by decide +kernel
theorem dX3_layThreaded_7 : decode cX3_layThreaded 7 = .ok (.iconst 0, 1) := by decide +kernel
theorem dX3_layThreaded_8 : decode cX3_layThreaded 8 = .ok (.istore 5, 2) := by decide +kernel
theorem dX3_layThreaded_10 : decode cX3_layThreaded 10 = .ok (.iload 5, 2) := by decide +kernel
theorem dX3_layThreaded_12 : decode cX3_layThreaded 12 = .ok (.aload_n 0, 1) := by decide +kernel
theorem dX3_layThreaded_13 : decode cX3_layThreaded 13 = .ok (.getfield 47, 3) := by decide +kernel
theorem dX3_layThreaded_16 : decode cX3_layThreaded 16 = .ok (.if_icmp .ge 92, 3) := by decide +kernel
theorem dX3_layThreaded_19 : decode cX3_layThreaded 19 = .ok (.iconst 0, 1) := by decide +kernel
theorem dX3_layThreaded_20 : decode cX3_layThreaded 20 = .ok (.istore 6, 2) := by decide +kernel
theorem dX3_layThreaded_22 : decode cX3_layThreaded 22 = .ok (.iload 6, 2) := by decide +kernel
theorem dX3_layThreaded_24 : decode cX3_layThreaded 24 = .ok (.aload_n 0, 1) := by decide +kernel
theorem dX3_layThreaded_25 : decode cX3_layThreaded 25 = .ok (.getfield 47, 3) := by decide +kernel
theorem dX3_layThreaded_28 : decode cX3_layThreaded 28 = .ok (.if_icmp .ge 74, 3) := by decide +kernel
theorem dX3_layThreaded_31 : decode cX3_layThreaded 31 = .ok (.aload_n 0, 1) := by decide +kernel
theorem dX3_layThreaded_32 : decode cX3_layThreaded 32 = .ok (.iload 6, 2) := by decide +kernel
theorem dX3_layThreaded_34 : decode cX3_layThreaded 34 = .ok (.iload_n 2, 1) := by decide +kernel
theorem dX3_layThreaded_35 : decode cX3_layThreaded 35 = .ok (.invokevirtual 83, 3) := by decide +kernel
theorem dX3_layThreaded_38 : decode cX3_layThreaded 38 = .ok (.ifCond .eq 58, 3) := by decide +kernel
theorem dX3_layThreaded_41 : decode cX3_layThreaded 41 = .ok (.aload_n 0, 1) := by decide +kernel
theorem dX3_layThreaded_42 : decode cX3_layThreaded 42 = .ok (.iload 6, 2) := by decide +kernel
theorem dX3_layThreaded_44 : decode cX3_layThreaded 44 = .ok (.iload_n 2, 1) := by decide +kernel
theorem dX3_layThreaded_45 : decode cX3_layThreaded 45 = .ok (.iload_n 3, 1) := by decide +kernel
theorem dX3_layThreaded_46 : decode cX3_layThreaded 46 = .ok (.invokevirtual 129, 3) := by decide +kernel
theorem dX3_layThreaded_49 : decode cX3_layThreaded 49 = .ok (.iload 4, 2) := by decide +kernel
theorem dX3_layThreaded_51 : decode cX3_layThreaded 51 = .ok (.if_icmp .ne 45, 3) := by decide +kernel
theorem dX3_layThreaded_54 : decode cX3_layThreaded 54 = .ok (.aload_n 0, 1) := by decide +kernel
theorem dX3_layThreaded_55 : decode cX3_layThreaded 55 = .ok (.getfield 25, 3) := by decide +kernel
theorem dX3_layThreaded_58 : decode cX3_layThreaded 58 = .ok (.iload 5, 2) := by decide +kernel
theorem dX3_layThreaded_60 : decode cX3_layThreaded 60 = .ok (.iload 6, 2) := by decide +kernel
theorem dX3_layThreaded_62 : decode cX3_layThreaded 62 = .ok (.iastore, 1) := by decide +kernel
theorem dX3_layThreaded_63 : decode cX3_layThreaded 63 = .ok (.iload_n 2, 1) := by decide +kernel
theorem dX3_layThreaded_64 : decode cX3_layThreaded 64 = .ok (.iconst 1, 1) := by decide +kernel
theorem dX3_layThreaded_65 : decode cX3_layThreaded 65 = .ok (.iload 6, 2) := by decide +kernel
theorem dX3_layThreaded_67 : decode cX3_layThreaded 67 = .ok (.ishl, 1) := by decide +kernel
theorem dX3_layThreaded_68 : decode cX3_layThreaded 68 = .ok (.ior, 1) := by decide +kernel
theorem dX3_layThreaded_69 : decode cX3_layThreaded 69 = .ok (.istore_n 2, 1) := by decide +kernel
theorem dX3_layThreaded_70 : decode cX3_layThreaded 70 = .ok (.aload_n 0, 1) := by decide +kernel
theorem dX3_layThreaded_71 : decode cX3_layThreaded 71 = .ok (.getfield 12, 3) := by decide +kernel
theorem dX3_layThreaded_74 : decode cX3_layThreaded 74 = .ok (.getfield 137, 3) := by decide +kernel
theorem dX3_layThreaded_77 : decode cX3_layThreaded 77 = .ok (.iload 6, 2) := by decide +kernel
theorem dX3_layThreaded_79 : decode cX3_layThreaded 79 = .ok (.iaload, 1) := by decide +kernel
theorem dX3_layThreaded_80 : decode cX3_layThreaded 80 = .ok (.istore_n 3, 1) := by decide +kernel
theorem dX3_layThreaded_81 : decode cX3_layThreaded 81 = .ok (.aload_n 0, 1) := by decide +kernel
theorem dX3_layThreaded_82 : decode cX3_layThreaded 82 = .ok (.getfield 40, 3) := by decide +kernel
theorem dX3_layThreaded_85 : decode cX3_layThreaded 85 = .ok (.iload_n 2, 1) := by decide +kernel
theorem dX3_layThreaded_86 : decode cX3_layThreaded 86 = .ok (.iconst 4, 1) := by decide +kernel
theorem dX3_layThreaded_87 : decode cX3_layThreaded 87 = .ok (.imul, 1) := by decide +kernel
theorem dX3_layThreaded_88 : decode cX3_layThreaded 88 = .ok (.iload_n 3, 1) := by decide +kernel
theorem dX3_layThreaded_89 : decode cX3_layThreaded 89 = .ok (.iadd, 1) := by decide +kernel
theorem dX3_layThreaded_90 : decode cX3_layThreaded 90 = .ok (.iaload, 1) := by decide +kernel
theorem dX3_layThreaded_91 : decode cX3_layThreaded 91 = .ok (.istore 4, 2) := by decide +kernel
theorem dX3_layThreaded_93 : decode cX3_layThreaded 93 = .ok (.goto 9, 3) := by decide +kernel
theorem dX3_layThreaded_96 : decode cX3_layThreaded 96 = .ok (.iinc 6 1, 3) := by decide +kernel
theorem dX3_layThreaded_99 : decode cX3_layThreaded 99 = .ok (.goto (-77), 3) := by decide +kernel
theorem dX3_layThreaded_102 : decode cX3_layThreaded 102 = .ok (.iinc 5 1, 3) := by decide +kernel
theorem dX3_layThreaded_105 : decode cX3_layThreaded 105 = .ok (.goto (-95), 3) := by decide +kernel
theorem dX3_layThreaded_108 : decode cX3_layThreaded 108 = .ok (.return_, 1) := by decide +kernel
theorem dX3_changesFrom_0 : decode cX3_changesFrom 0 = .ok (.aload_n 0, 1) := by decide +kernel
theorem dX3_changesFrom_1 : decode cX3_changesFrom 1 = .ok (.getfield 12, 3) := by decide +kernel
theorem dX3_changesFrom_4 : decode cX3_changesFrom 4 = .ok (.getfield 137, 3) := by decide +kernel
theorem dX3_changesFrom_7 : decode cX3_changesFrom 7 = .ok (.iload_n 1, 1) := by decide +kernel
theorem dX3_changesFrom_8 : decode cX3_changesFrom 8 = .ok (.iaload, 1) := by decide +kernel
theorem dX3_changesFrom_9 : decode cX3_changesFrom 9 = .ok (.istore 4, 2) := by decide +kernel
theorem dX3_changesFrom_11 : decode cX3_changesFrom 11 = .ok (.iload_n 3, 1) := by decide +kernel
theorem dX3_changesFrom_12 : decode cX3_changesFrom 12 = .ok (.iconst (-1), 1) := by decide +kernel
theorem dX3_changesFrom_13 : decode cX3_changesFrom 13 = .ok (.if_icmp .eq 9, 3) := by decide +kernel
theorem dX3_changesFrom_16 : decode cX3_changesFrom 16 = .ok (.iload_n 3, 1) := by decide +kernel
theorem dX3_changesFrom_17 : decode cX3_changesFrom 17 = .ok (.iload 4, 2) := by decide +kernel
theorem dX3_changesFrom_19 : decode cX3_changesFrom 19 = .ok (.if_icmp .ne 7, 3) := by decide +kernel
theorem dX3_changesFrom_22 : decode cX3_changesFrom 22 = .ok (.iconst 0, 1) := by decide +kernel
theorem dX3_changesFrom_23 : decode cX3_changesFrom 23 = .ok (.goto 4, 3) := by decide +kernel
theorem dX3_changesFrom_26 : decode cX3_changesFrom 26 = .ok (.iconst 1, 1) := by decide +kernel
theorem dX3_changesFrom_27 : decode cX3_changesFrom 27 = .ok (.istore 5, 2) := by decide +kernel
theorem dX3_changesFrom_29 : decode cX3_changesFrom 29 = .ok (.iload 5, 2) := by decide +kernel
theorem dX3_changesFrom_31 : decode cX3_changesFrom 31 = .ok (.aload_n 0, 1) := by decide +kernel
theorem dX3_changesFrom_32 : decode cX3_changesFrom 32 = .ok (.getfield 40, 3) := by decide +kernel
theorem dX3_changesFrom_35 : decode cX3_changesFrom 35 = .ok (.iload_n 2, 1) := by decide +kernel
theorem dX3_changesFrom_36 : decode cX3_changesFrom 36 = .ok (.iconst 1, 1) := by decide +kernel
theorem dX3_changesFrom_37 : decode cX3_changesFrom 37 = .ok (.iload_n 1, 1) := by decide +kernel
theorem dX3_changesFrom_38 : decode cX3_changesFrom 38 = .ok (.ishl, 1) := by decide +kernel
theorem dX3_changesFrom_39 : decode cX3_changesFrom 39 = .ok (.ior, 1) := by decide +kernel
theorem dX3_changesFrom_40 : decode cX3_changesFrom 40 = .ok (.iconst 4, 1) := by decide +kernel
theorem dX3_changesFrom_41 : decode cX3_changesFrom 41 = .ok (.imul, 1) := by decide +kernel
theorem dX3_changesFrom_42 : decode cX3_changesFrom 42 = .ok (.iload 4, 2) := by decide +kernel
theorem dX3_changesFrom_44 : decode cX3_changesFrom 44 = .ok (.iadd, 1) := by decide +kernel
theorem dX3_changesFrom_45 : decode cX3_changesFrom 45 = .ok (.iaload, 1) := by decide +kernel
theorem dX3_changesFrom_46 : decode cX3_changesFrom 46 = .ok (.iadd, 1) := by decide +kernel
theorem dX3_changesFrom_47 : decode cX3_changesFrom 47 = .ok (.ireturn, 1) := by decide +kernel
theorem dX3_longest_0 : decode cX3_longest 0 = .ok (.iconst 0, 1) := by decide +kernel
theorem dX3_longest_1 : decode cX3_longest 1 = .ok (.istore_n 2, 1) := by decide +kernel
theorem dX3_longest_2 : decode cX3_longest 2 = .ok (.iconst 0, 1) := by decide +kernel
theorem dX3_longest_3 : decode cX3_longest 3 = .ok (.istore_n 3, 1) := by decide +kernel
theorem dX3_longest_4 : decode cX3_longest 4 = .ok (.iload_n 3, 1) := by decide +kernel
theorem dX3_longest_5 : decode cX3_longest 5 = .ok (.aload_n 0, 1) := by decide +kernel
theorem dX3_longest_6 : decode cX3_longest 6 = .ok (.getfield 47, 3) := by decide +kernel
theorem dX3_longest_9 : decode cX3_longest 9 = .ok (.if_icmp .ge 104, 3) := by decide +kernel
theorem dX3_longest_12 : decode cX3_longest 12 = .ok (.aload_n 0, 1) := by decide +kernel
theorem dX3_longest_13 : decode cX3_longest 13 = .ok (.getfield 25, 3) := by decide +kernel
theorem dX3_longest_16 : decode cX3_longest 16 = .ok (.iload_n 3, 1) := by decide +kernel
theorem dX3_longest_17 : decode cX3_longest 17 = .ok (.iaload, 1) := by decide +kernel
theorem dX3_longest_18 : decode cX3_longest 18 = .ok (.istore 4, 2) := by decide +kernel
theorem dX3_longest_20 : decode cX3_longest 20 = .ok (.iconst 0, 1) := by decide +kernel
theorem dX3_longest_21 : decode cX3_longest 21 = .ok (.istore 5, 2) := by decide +kernel
theorem dX3_longest_23 : decode cX3_longest 23 = .ok (.iconst 0, 1) := by decide +kernel
theorem dX3_longest_24 : decode cX3_longest 24 = .ok (.istore 6, 2) := by decide +kernel
theorem dX3_longest_26 : decode cX3_longest 26 = .ok (.iload 6, 2) := by decide +kernel
theorem dX3_longest_28 : decode cX3_longest 28 = .ok (.aload_n 0, 1) := by decide +kernel
theorem dX3_longest_29 : decode cX3_longest 29 = .ok (.getfield 47, 3) := by decide +kernel
theorem dX3_longest_32 : decode cX3_longest 32 = .ok (.if_icmp .ge 39, 3) := by decide +kernel
theorem dX3_longest_35 : decode cX3_longest 35 = .ok (.aload_n 0, 1) := by decide +kernel
theorem dX3_longest_36 : decode cX3_longest 36 = .ok (.getfield 18, 3) := by decide +kernel
theorem dX3_longest_39 : decode cX3_longest 39 = .ok (.iload 4, 2) := by decide +kernel
theorem dX3_longest_41 : decode cX3_longest 41 = .ok (.iaload, 1) := by decide +kernel
theorem dX3_longest_42 : decode cX3_longest 42 = .ok (.iload 6, 2) := by decide +kernel
theorem dX3_longest_44 : decode cX3_longest 44 = .ok (.ishr, 1) := by decide +kernel
theorem dX3_longest_45 : decode cX3_longest 45 = .ok (.iconst 1, 1) := by decide +kernel
theorem dX3_longest_46 : decode cX3_longest 46 = .ok (.iand, 1) := by decide +kernel
theorem dX3_longest_47 : decode cX3_longest 47 = .ok (.iconst 1, 1) := by decide +kernel
theorem dX3_longest_48 : decode cX3_longest 48 = .ok (.if_icmp .ne 17, 3) := by decide +kernel
theorem dX3_longest_51 : decode cX3_longest 51 = .ok (.iload 5, 2) := by decide +kernel
theorem dX3_longest_53 : decode cX3_longest 53 = .ok (.aload_n 0, 1) := by decide +kernel
theorem dX3_longest_54 : decode cX3_longest 54 = .ok (.getfield 28, 3) := by decide +kernel
theorem dX3_longest_57 : decode cX3_longest 57 = .ok (.iload 6, 2) := by decide +kernel
theorem dX3_longest_59 : decode cX3_longest 59 = .ok (.iaload, 1) := by decide +kernel
theorem dX3_longest_60 : decode cX3_longest 60 = .ok (.invokestatic 100, 3) := by decide +kernel
theorem dX3_longest_63 : decode cX3_longest 63 = .ok (.istore 5, 2) := by decide +kernel
theorem dX3_longest_65 : decode cX3_longest 65 = .ok (.iinc 6 1, 3) := by decide +kernel
theorem dX3_longest_68 : decode cX3_longest 68 = .ok (.goto (-42), 3) := by decide +kernel
theorem dX3_longest_71 : decode cX3_longest 71 = .ok (.aload_n 0, 1) := by decide +kernel
theorem dX3_longest_72 : decode cX3_longest 72 = .ok (.getfield 28, 3) := by decide +kernel
theorem dX3_longest_75 : decode cX3_longest 75 = .ok (.iload 4, 2) := by decide +kernel
theorem dX3_longest_77 : decode cX3_longest 77 = .ok (.iload 5, 2) := by decide +kernel
theorem dX3_longest_79 : decode cX3_longest 79 = .ok (.aload_n 0, 1) := by decide +kernel
theorem dX3_longest_80 : decode cX3_longest 80 = .ok (.getfield 12, 3) := by decide +kernel
theorem dX3_longest_83 : decode cX3_longest 83 = .ok (.getfield 140, 3) := by decide +kernel
theorem dX3_longest_86 : decode cX3_longest 86 = .ok (.iload 4, 2) := by decide +kernel
theorem dX3_longest_88 : decode cX3_longest 88 = .ok (.iaload, 1) := by decide +kernel
theorem dX3_longest_89 : decode cX3_longest 89 = .ok (.iload_n 1, 1) := by decide +kernel
theorem dX3_longest_90 : decode cX3_longest 90 = .ok (.invokestatic 123, 3) := by decide +kernel
theorem dX3_longest_93 : decode cX3_longest 93 = .ok (.iadd, 1) := by decide +kernel
theorem dX3_longest_94 : decode cX3_longest 94 = .ok (.iastore, 1) := by decide +kernel
theorem dX3_longest_95 : decode cX3_longest 95 = .ok (.iload_n 2, 1) := by decide +kernel
theorem dX3_longest_96 : decode cX3_longest 96 = .ok (.aload_n 0, 1) := by decide +kernel
theorem dX3_longest_97 : decode cX3_longest 97 = .ok (.getfield 28, 3) := by decide +kernel
theorem dX3_longest_100 : decode cX3_longest 100 = .ok (.iload 4, 2) := by decide +kernel
theorem dX3_longest_102 : decode cX3_longest 102 = .ok (.iaload, 1) := by decide +kernel
theorem dX3_longest_103 : decode cX3_longest 103 = .ok (.invokestatic 100, 3) := by decide +kernel
theorem dX3_longest_106 : decode cX3_longest 106 = .ok (.istore_n 2, 1) := by decide +kernel
theorem dX3_longest_107 : decode cX3_longest 107 = .ok (.iinc 3 1, 3) := by decide +kernel
theorem dX3_longest_110 : decode cX3_longest 110 = .ok (.goto (-106), 3) := by decide +kernel
theorem dX3_longest_113 : decode cX3_longest 113 = .ok (.iload_n 2, 1) := by decide +kernel
theorem dX3_longest_114 : decode cX3_longest 114 = .ok (.ireturn, 1) := by decide +kernel
theorem dX3_daysOfTailors_0 : decode cX3_daysOfTailors 0 = .ok (.aload_n 0, 1) := by decide +kernel
theorem dX3_daysOfTailors_1 : decode cX3_daysOfTailors 1 = .ok (.getfield 31, 3) := by decide +kernel
theorem dX3_daysOfTailors_4 : decode cX3_daysOfTailors 4 = .ok (.iconst 0, 1) := by decide +kernel
theorem dX3_daysOfTailors_5 : decode cX3_daysOfTailors 5 = .ok (.invokestatic 57, 3) := by decide +kernel
theorem dX3_daysOfTailors_8 : decode cX3_daysOfTailors 8 = .ok (.aload_n 0, 1) := by decide +kernel
theorem dX3_daysOfTailors_9 : decode cX3_daysOfTailors 9 = .ok (.getfield 28, 3) := by decide +kernel
theorem dX3_daysOfTailors_12 : decode cX3_daysOfTailors 12 = .ok (.ldc 99, 2) := by decide +kernel
theorem dX3_daysOfTailors_14 : decode cX3_daysOfTailors 14 = .ok (.invokestatic 57, 3) := by decide +kernel
theorem dX3_daysOfTailors_17 : decode cX3_daysOfTailors 17 = .ok (.iconst 0, 1) := by decide +kernel
theorem dX3_daysOfTailors_18 : decode cX3_daysOfTailors 18 = .ok (.istore_n 2, 1) := by decide +kernel
theorem dX3_daysOfTailors_19 : decode cX3_daysOfTailors 19 = .ok (.iconst 0, 1) := by decide +kernel
theorem dX3_daysOfTailors_20 : decode cX3_daysOfTailors 20 = .ok (.istore_n 3, 1) := by decide +kernel
theorem dX3_daysOfTailors_21 : decode cX3_daysOfTailors 21 = .ok (.iconst 0, 1) := by decide +kernel
theorem dX3_daysOfTailors_22 : decode cX3_daysOfTailors 22 = .ok (.istore 4, 2) := by decide +kernel
theorem dX3_daysOfTailors_24 : decode cX3_daysOfTailors 24 = .ok (.iload 4, 2) := by decide +kernel
theorem dX3_daysOfTailors_26 : decode cX3_daysOfTailors 26 = .ok (.bipush 100, 2) := by decide +kernel
theorem dX3_daysOfTailors_28 : decode cX3_daysOfTailors 28 = .ok (.if_icmp .ge 136, 3) := by decide +kernel
theorem dX3_daysOfTailors_31 : decode cX3_daysOfTailors 31 = .ok (.iload_n 2, 1) := by decide +kernel
theorem dX3_daysOfTailors_32 : decode cX3_daysOfTailors 32 = .ok (.iconst 1, 1) := by decide +kernel
theorem dX3_daysOfTailors_33 : decode cX3_daysOfTailors 33 = .ok (.aload_n 0, 1) := by decide +kernel
theorem dX3_daysOfTailors_34 : decode cX3_daysOfTailors 34 = .ok (.getfield 47, 3) := by decide +kernel
theorem dX3_daysOfTailors_37 : decode cX3_daysOfTailors 37 = .ok (.ishl, 1) := by decide +kernel
theorem dX3_daysOfTailors_38 : decode cX3_daysOfTailors 38 = .ok (.iconst 1, 1) := by decide +kernel
theorem dX3_daysOfTailors_39 : decode cX3_daysOfTailors 39 = .ok (.isub, 1) := by decide +kernel
theorem dX3_daysOfTailors_40 : decode cX3_daysOfTailors 40 = .ok (.if_icmp .eq 124, 3) := by decide +kernel
theorem dX3_daysOfTailors_43 : decode cX3_daysOfTailors 43 = .ok (.iconst 0, 1) := by decide +kernel
theorem dX3_daysOfTailors_44 : decode cX3_daysOfTailors 44 = .ok (.istore 5, 2) := by decide +kernel
theorem dX3_daysOfTailors_46 : decode cX3_daysOfTailors 46 = .ok (.iload 5, 2) := by decide +kernel
theorem dX3_daysOfTailors_48 : decode cX3_daysOfTailors 48 = .ok (.iload_n 1, 1) := by decide +kernel
theorem dX3_daysOfTailors_49 : decode cX3_daysOfTailors 49 = .ok (.if_icmp .ge 109, 3) := by decide +kernel
theorem dX3_daysOfTailors_52 : decode cX3_daysOfTailors 52 = .ok (.iload 5, 2) := by decide +kernel
theorem dX3_daysOfTailors_54 : decode cX3_daysOfTailors 54 = .ok (.iconst 4, 1) := by decide +kernel
theorem dX3_daysOfTailors_55 : decode cX3_daysOfTailors 55 = .ok (.if_icmp .ge 103, 3) := by decide +kernel
theorem dX3_daysOfTailors_58 : decode cX3_daysOfTailors 58 = .ok (.aload_n 0, 1) := by decide +kernel
theorem dX3_daysOfTailors_59 : decode cX3_daysOfTailors 59 = .ok (.getfield 31, 3) := by decide +kernel
theorem dX3_daysOfTailors_62 : decode cX3_daysOfTailors 62 = .ok (.iload 5, 2) := by decide +kernel
theorem dX3_daysOfTailors_64 : decode cX3_daysOfTailors 64 = .ok (.iaload, 1) := by decide +kernel
theorem dX3_daysOfTailors_65 : decode cX3_daysOfTailors 65 = .ok (.iload 4, 2) := by decide +kernel
theorem dX3_daysOfTailors_67 : decode cX3_daysOfTailors 67 = .ok (.if_icmp .gt 13, 3) := by decide +kernel
theorem dX3_daysOfTailors_70 : decode cX3_daysOfTailors 70 = .ok (.aload_n 0, 1) := by decide +kernel
theorem dX3_daysOfTailors_71 : decode cX3_daysOfTailors 71 = .ok (.iload 4, 2) := by decide +kernel
theorem dX3_daysOfTailors_73 : decode cX3_daysOfTailors 73 = .ok (.iload_n 2, 1) := by decide +kernel
theorem dX3_daysOfTailors_74 : decode cX3_daysOfTailors 74 = .ok (.invokevirtual 143, 3) := by decide +kernel
theorem dX3_daysOfTailors_77 : decode cX3_daysOfTailors 77 = .ok (.goto 4, 3) := by decide +kernel
theorem dX3_daysOfTailors_80 : decode cX3_daysOfTailors 80 = .ok (.iconst (-1), 1) := by decide +kernel
theorem dX3_daysOfTailors_81 : decode cX3_daysOfTailors 81 = .ok (.istore 6, 2) := by decide +kernel
theorem dX3_daysOfTailors_83 : decode cX3_daysOfTailors 83 = .ok (.iload 6, 2) := by decide +kernel
theorem dX3_daysOfTailors_85 : decode cX3_daysOfTailors 85 = .ok (.iconst (-1), 1) := by decide +kernel
theorem dX3_daysOfTailors_86 : decode cX3_daysOfTailors 86 = .ok (.if_icmp .eq 66, 3) := by decide +kernel
theorem dX3_daysOfTailors_89 : decode cX3_daysOfTailors 89 = .ok (.iload_n 2, 1) := by decide +kernel
theorem dX3_daysOfTailors_90 : decode cX3_daysOfTailors 90 = .ok (.iconst 1, 1) := by decide +kernel
theorem dX3_daysOfTailors_91 : decode cX3_daysOfTailors 91 = .ok (.iload 6, 2) := by decide +kernel
theorem dX3_daysOfTailors_93 : decode cX3_daysOfTailors 93 = .ok (.ishl, 1) := by decide +kernel
theorem dX3_daysOfTailors_94 : decode cX3_daysOfTailors 94 = .ok (.ior, 1) := by decide +kernel
theorem dX3_daysOfTailors_95 : decode cX3_daysOfTailors 95 = .ok (.istore_n 2, 1) := by decide +kernel
theorem dX3_daysOfTailors_96 : decode cX3_daysOfTailors 96 = .ok (.aload_n 0, 1) := by decide +kernel
theorem dX3_daysOfTailors_97 : decode cX3_daysOfTailors 97 = .ok (.getfield 28, 3) := by decide +kernel
theorem dX3_daysOfTailors_100 : decode cX3_daysOfTailors 100 = .ok (.iload 6, 2) := by decide +kernel
theorem dX3_daysOfTailors_102 : decode cX3_daysOfTailors 102 = .ok (.iload 4, 2) := by decide +kernel
theorem dX3_daysOfTailors_104 : decode cX3_daysOfTailors 104 = .ok (.aload_n 0, 1) := by decide +kernel
theorem dX3_daysOfTailors_105 : decode cX3_daysOfTailors 105 = .ok (.getfield 12, 3) := by decide +kernel
theorem dX3_daysOfTailors_108 : decode cX3_daysOfTailors 108 = .ok (.getfield 140, 3) := by decide +kernel
theorem dX3_daysOfTailors_111 : decode cX3_daysOfTailors 111 = .ok (.iload 6, 2) := by decide +kernel
theorem dX3_daysOfTailors_113 : decode cX3_daysOfTailors 113 = .ok (.iaload, 1) := by decide +kernel
theorem dX3_daysOfTailors_114 : decode cX3_daysOfTailors 114 = .ok (.aload_n 0, 1) := by decide +kernel
theorem dX3_daysOfTailors_115 : decode cX3_daysOfTailors 115 = .ok (.getfield 12, 3) := by decide +kernel
theorem dX3_daysOfTailors_118 : decode cX3_daysOfTailors 118 = .ok (.getfield 120, 3) := by decide +kernel
theorem dX3_daysOfTailors_121 : decode cX3_daysOfTailors 121 = .ok (.invokestatic 123, 3) := by decide +kernel
theorem dX3_daysOfTailors_124 : decode cX3_daysOfTailors 124 = .ok (.iadd, 1) := by decide +kernel
theorem dX3_daysOfTailors_125 : decode cX3_daysOfTailors 125 = .ok (.iastore, 1) := by decide +kernel
theorem dX3_daysOfTailors_126 : decode cX3_daysOfTailors 126 = .ok (.aload_n 0, 1) := by decide +kernel
theorem dX3_daysOfTailors_127 : decode cX3_daysOfTailors 127 = .ok (.getfield 31, 3) := by decide +kernel
theorem dX3_daysOfTailors_130 : decode cX3_daysOfTailors 130 = .ok (.iload 5, 2) := by decide +kernel
theorem dX3_daysOfTailors_132 : decode cX3_daysOfTailors 132 = .ok (.aload_n 0, 1) := by decide +kernel
theorem dX3_daysOfTailors_133 : decode cX3_daysOfTailors 133 = .ok (.getfield 28, 3) := by decide +kernel
theorem dX3_daysOfTailors_136 : decode cX3_daysOfTailors 136 = .ok (.iload 6, 2) := by decide +kernel
theorem dX3_daysOfTailors_138 : decode cX3_daysOfTailors 138 = .ok (.iaload, 1) := by decide +kernel
theorem dX3_daysOfTailors_139 : decode cX3_daysOfTailors 139 = .ok (.iastore, 1) := by decide +kernel
theorem dX3_daysOfTailors_140 : decode cX3_daysOfTailors 140 = .ok (.iload_n 3, 1) := by decide +kernel
theorem dX3_daysOfTailors_141 : decode cX3_daysOfTailors 141 = .ok (.aload_n 0, 1) := by decide +kernel
theorem dX3_daysOfTailors_142 : decode cX3_daysOfTailors 142 = .ok (.getfield 28, 3) := by decide +kernel
theorem dX3_daysOfTailors_145 : decode cX3_daysOfTailors 145 = .ok (.iload 6, 2) := by decide +kernel
theorem dX3_daysOfTailors_147 : decode cX3_daysOfTailors 147 = .ok (.iaload, 1) := by decide +kernel
