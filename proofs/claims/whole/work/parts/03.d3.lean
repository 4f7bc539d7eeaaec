theorem dX10_of_14 : decode cX10_of 14 = .ok (.iaload, 1) := by decide +kernel
theorem dX10_of_15 : decode cX10_of 15 = .ok (.ireturn, 1) := by decide +kernel
theorem dX10_hand_0 : decode cX10_hand 0 = .ok (.aload_n 0, 1) := by decide +kernel
theorem dX10_hand_1 : decode cX10_hand 1 = .ok (.iconst 0, 1) := by decide +kernel
theorem dX10_hand_2 : decode cX10_hand 2 = .ok (.iload_n 1, 1) := by decide +kernel
theorem dX10_hand_3 : decode cX10_hand 3 = .ok (.invokevirtual 265, 3) := by decide +kernel
theorem dX10_hand_6 : decode cX10_hand 6 = .ok (.ifCond .ne 5, 3) := by decide +kernel
theorem dX10_hand_9 : decode cX10_hand 9 = .ok (.iconst 0, 1) := by decide +kernel
theorem dX10_hand_10 : decode cX10_hand 10 = .ok (.ireturn, 1) := by decide +kernel
theorem dX10_hand_11 : decode cX10_hand 11 = .ok (.aload_n 0, 1) := by decide +kernel
theorem dX10_hand_12 : decode cX10_hand 12 = .ok (.iload_n 1, 1) := by decide +kernel
theorem dX10_hand_13 : decode cX10_hand 13 = .ok (.putfield 274, 3) := by decide +kernel
theorem dX10_hand_16 : decode cX10_hand 16 = .ok (.aload_n 0, 1) := by decide +kernel
theorem dX10_hand_17 : decode cX10_hand 17 = .ok (.aload_n 0, 1) := by decide +kernel
theorem dX10_hand_18 : decode cX10_hand 18 = .ok (.iconst 0, 1) := by decide +kernel
theorem dX10_hand_19 : decode cX10_hand 19 = .ok (.invokevirtual 277, 3) := by decide +kernel
theorem dX10_hand_22 : decode cX10_hand 22 = .ok (.putfield 281, 3) := by decide +kernel
theorem dX10_hand_25 : decode cX10_hand 25 = .ok (.aload_n 0, 1) := by decide +kernel
theorem dX10_hand_26 : decode cX10_hand 26 = .ok (.aload_n 0, 1) := by decide +kernel
theorem dX10_hand_27 : decode cX10_hand 27 = .ok (.iconst 1, 1) := by decide +kernel
theorem dX10_hand_28 : decode cX10_hand 28 = .ok (.invokevirtual 277, 3) := by decide +kernel
theorem dX10_hand_31 : decode cX10_hand 31 = .ok (.putfield 284, 3) := by decide +kernel
theorem dX10_hand_34 : decode cX10_hand 34 = .ok (.iconst 1, 1) := by decide +kernel
theorem dX10_hand_35 : decode cX10_hand 35 = .ok (.ireturn, 1) := by decide +kernel
theorem dX10_isSeam_0 : decode cX10_isSeam 0 = .ok (.iload_n 1, 1) := by decide +kernel
theorem dX10_isSeam_1 : decode cX10_isSeam 1 = .ok (.iconst 0, 1) := by decide +kernel
theorem dX10_isSeam_2 : decode cX10_isSeam 2 = .ok (.aload_n 0, 1) := by decide +kernel
theorem dX10_isSeam_3 : decode cX10_isSeam 3 = .ok (.getfield 281, 3) := by decide +kernel
theorem dX10_isSeam_6 : decode cX10_isSeam 6 = .ok (.iconst 1, 1) := by decide +kernel
theorem dX10_isSeam_7 : decode cX10_isSeam 7 = .ok (.isub, 1) := by decide +kernel
theorem dX10_isSeam_8 : decode cX10_isSeam 8 = .ok (.invokestatic 106, 3) := by decide +kernel
theorem dX10_isSeam_11 : decode cX10_isSeam 11 = .ok (.ireturn, 1) := by decide +kernel
theorem dX10_coat_0 : decode cX10_coat 0 = .ok (.aload_n 0, 1) := by decide +kernel
theorem dX10_coat_1 : decode cX10_coat 1 = .ok (.iconst 0, 1) := by decide +kernel
theorem dX10_coat_2 : decode cX10_coat 2 = .ok (.putfield 94, 3) := by decide +kernel
theorem dX10_coat_5 : decode cX10_coat 5 = .ok (.aload_n 0, 1) := by decide +kernel
theorem dX10_coat_6 : decode cX10_coat 6 = .ok (.iload_n 1, 1) := by decide +kernel
theorem dX10_coat_7 : decode cX10_coat 7 = .ok (.invokevirtual 287, 3) := by decide +kernel
theorem dX10_coat_10 : decode cX10_coat 10 = .ok (.ifCond .ne 5, 3) := by decide +kernel
theorem dX10_coat_13 : decode cX10_coat 13 = .ok (.iconst (-1), 1) := by decide +kernel
theorem dX10_coat_14 : decode cX10_coat 14 = .ok (.ireturn, 1) := by decide +kernel
theorem dX10_coat_15 : decode cX10_coat 15 = .ok (.iload_n 2, 1) := by decide +kernel
theorem dX10_coat_16 : decode cX10_coat 16 = .ok (.bipush 100, 2) := by decide +kernel
theorem dX10_coat_18 : decode cX10_coat 18 = .ok (.sipush 199, 3) := by decide +kernel
theorem dX10_coat_21 : decode cX10_coat 21 = .ok (.invokestatic 106, 3) := by decide +kernel
theorem dX10_coat_24 : decode cX10_coat 24 = .ok (.ifCond .eq 15, 3) := by decide +kernel
theorem dX10_coat_27 : decode cX10_coat 27 = .ok (.aload_n 0, 1) := by decide +kernel
theorem dX10_coat_28 : decode cX10_coat 28 = .ok (.bipush 38, 2) := by decide +kernel
theorem dX10_coat_30 : decode cX10_coat 30 = .ok (.iload_n 2, 1) := by decide +kernel
theorem dX10_coat_31 : decode cX10_coat 31 = .ok (.iadd, 1) := by decide +kernel
theorem dX10_coat_32 : decode cX10_coat 32 = .ok (.bipush 100, 2) := by decide +kernel
theorem dX10_coat_34 : decode cX10_coat 34 = .ok (.isub, 1) := by decide +kernel
theorem dX10_coat_35 : decode cX10_coat 35 = .ok (.invokevirtual 277, 3) := by decide +kernel
theorem dX10_coat_38 : decode cX10_coat 38 = .ok (.ireturn, 1) := by decide +kernel
theorem dX10_coat_39 : decode cX10_coat 39 = .ok (.iload_n 2, 1) := by decide +kernel
theorem dX10_coat_40 : decode cX10_coat 40 = .ok (.bipush 10, 2) := by decide +kernel
theorem dX10_coat_42 : decode cX10_coat 42 = .ok (.bipush 49, 2) := by decide +kernel
theorem dX10_coat_44 : decode cX10_coat 44 = .ok (.invokestatic 106, 3) := by decide +kernel
theorem dX10_coat_47 : decode cX10_coat 47 = .ok (.ifCond .eq 39, 3) := by decide +kernel
theorem dX10_coat_50 : decode cX10_coat 50 = .ok (.aload_n 0, 1) := by decide +kernel
theorem dX10_coat_51 : decode cX10_coat 51 = .ok (.iload_n 2, 1) := by decide +kernel
theorem dX10_coat_52 : decode cX10_coat 52 = .ok (.bipush 10, 2) := by decide +kernel
theorem dX10_coat_54 : decode cX10_coat 54 = .ok (.irem, 1) := by decide +kernel
theorem dX10_coat_55 : decode cX10_coat 55 = .ok (.invokevirtual 290, 3) := by decide +kernel
theorem dX10_coat_58 : decode cX10_coat 58 = .ok (.ifCond .eq 26, 3) := by decide +kernel
theorem dX10_coat_61 : decode cX10_coat 61 = .ok (.aload_n 0, 1) := by decide +kernel
theorem dX10_coat_62 : decode cX10_coat 62 = .ok (.iconst 2, 1) := by decide +kernel
theorem dX10_coat_63 : decode cX10_coat 63 = .ok (.bipush 9, 2) := by decide +kernel
theorem dX10_coat_65 : decode cX10_coat 65 = .ok (.iload_n 2, 1) := by decide +kernel
theorem dX10_coat_66 : decode cX10_coat 66 = .ok (.bipush 10, 2) := by decide +kernel
theorem dX10_coat_68 : decode cX10_coat 68 = .ok (.idiv, 1) := by decide +kernel
theorem dX10_coat_69 : decode cX10_coat 69 = .ok (.iconst 1, 1) := by decide +kernel
theorem dX10_coat_70 : decode cX10_coat 70 = .ok (.isub, 1) := by decide +kernel
theorem dX10_coat_71 : decode cX10_coat 71 = .ok (.imul, 1) := by decide +kernel
theorem dX10_coat_72 : decode cX10_coat 72 = .ok (.iadd, 1) := by decide +kernel
theorem dX10_coat_73 : decode cX10_coat 73 = .ok (.iload_n 2, 1) := by decide +kernel
theorem dX10_coat_74 : decode cX10_coat 74 = .ok (.bipush 10, 2) := by decide +kernel
theorem dX10_coat_76 : decode cX10_coat 76 = .ok (.irem, 1) := by decide +kernel
theorem dX10_coat_77 : decode cX10_coat 77 = .ok (.iadd, 1) := by decide +kernel
theorem dX10_coat_78 : decode cX10_coat 78 = .ok (.invokevirtual 277, 3) := by decide +kernel
theorem dX10_coat_81 : decode cX10_coat 81 = .ok (.goto 4, 3) := by decide +kernel
theorem dX10_coat_84 : decode cX10_coat 84 = .ok (.iconst (-1), 1) := by decide +kernel
theorem dX10_coat_85 : decode cX10_coat 85 = .ok (.ireturn, 1) := by decide +kernel
theorem dX10_coat_86 : decode cX10_coat 86 = .ok (.iload_n 2, 1) := by decide +kernel
theorem dX10_coat_87 : decode cX10_coat 87 = .ok (.iconst 0, 1) := by decide +kernel
theorem dX10_coat_88 : decode cX10_coat 88 = .ok (.iconst 1, 1) := by decide +kernel
theorem dX10_coat_89 : decode cX10_coat 89 = .ok (.invokestatic 106, 3) := by decide +kernel
theorem dX10_coat_92 : decode cX10_coat 92 = .ok (.ifCond .eq 11, 3) := by decide +kernel
theorem dX10_coat_95 : decode cX10_coat 95 = .ok (.aload_n 0, 1) := by decide +kernel
theorem dX10_coat_96 : decode cX10_coat 96 = .ok (.iload_n 2, 1) := by decide +kernel
theorem dX10_coat_97 : decode cX10_coat 97 = .ok (.invokevirtual 277, 3) := by decide +kernel
theorem dX10_coat_100 : decode cX10_coat 100 = .ok (.goto 4, 3) := by decide +kernel
theorem dX10_coat_103 : decode cX10_coat 103 = .ok (.iconst (-1), 1) := by decide +kernel
theorem dX10_coat_104 : decode cX10_coat 104 = .ok (.ireturn, 1) := by decide +kernel
theorem dX10_deeds_0 : decode cX10_deeds 0 = .ok (.aload_n 0, 1) := by decide +kernel
theorem dX10_deeds_1 : decode cX10_deeds 1 = .ok (.getfield 29, 3) := by decide +kernel
theorem dX10_deeds_4 : decode cX10_deeds 4 = .ok (.bipush 81, 2) := by decide +kernel
theorem dX10_deeds_6 : decode cX10_deeds 6 = .ok (.aload_n 0, 1) := by decide +kernel
theorem dX10_deeds_7 : decode cX10_deeds 7 = .ok (.getfield 293, 3) := by decide +kernel
theorem dX10_deeds_10 : decode cX10_deeds 10 = .ok (.imul, 1) := by decide +kernel
theorem dX10_deeds_11 : decode cX10_deeds 11 = .ok (.iaload, 1) := by decide +kernel
theorem dX10_deeds_12 : decode cX10_deeds 12 = .ok (.ireturn, 1) := by decide +kernel
theorem dX10_deedOf_0 : decode cX10_deedOf 0 = .ok (.aload_n 0, 1) := by decide +kernel
theorem dX10_deedOf_1 : decode cX10_deedOf 1 = .ok (.getfield 29, 3) := by decide +kernel
theorem dX10_deedOf_4 : decode cX10_deedOf 4 = .ok (.bipush 81, 2) := by decide +kernel
theorem dX10_deedOf_6 : decode cX10_deedOf 6 = .ok (.aload_n 0, 1) := by decide +kernel
theorem dX10_deedOf_7 : decode cX10_deedOf 7 = .ok (.getfield 293, 3) := by decide +kernel
theorem dX10_deedOf_10 : decode cX10_deedOf 10 = .ok (.imul, 1) := by decide +kernel
theorem dX10_deedOf_11 : decode cX10_deedOf 11 = .ok (.iconst 1, 1) := by decide +kernel
theorem dX10_deedOf_12 : decode cX10_deedOf 12 = .ok (.iadd, 1) := by decide +kernel
theorem dX10_deedOf_13 : decode cX10_deedOf 13 = .ok (.iconst 2, 1) := by decide +kernel
theorem dX10_deedOf_14 : decode cX10_deedOf 14 = .ok (.iload_n 1, 1) := by decide +kernel
theorem dX10_deedOf_15 : decode cX10_deedOf 15 = .ok (.imul, 1) := by decide +kernel
theorem dX10_deedOf_16 : decode cX10_deedOf 16 = .ok (.iadd, 1) := by decide +kernel
theorem dX10_deedOf_17 : decode cX10_deedOf 17 = .ok (.iload_n 2, 1) := by decide +kernel
theorem dX10_deedOf_18 : decode cX10_deedOf 18 = .ok (.iadd, 1) := by decide +kernel
theorem dX10_deedOf_19 : decode cX10_deedOf 19 = .ok (.iaload, 1) := by decide +kernel
theorem dX10_deedOf_20 : decode cX10_deedOf 20 = .ok (.ireturn, 1) := by decide +kernel
theorem dX10_hasLife_0 : decode cX10_hasLife 0 = .ok (.aload_n 0, 1) := by decide +kernel
theorem dX10_hasLife_1 : decode cX10_hasLife 1 = .ok (.iload_n 1, 1) := by decide +kernel
theorem dX10_hasLife_2 : decode cX10_hasLife 2 = .ok (.putfield 293, 3) := by decide +kernel
theorem dX10_hasLife_5 : decode cX10_hasLife 5 = .ok (.aload_n 0, 1) := by decide +kernel
theorem dX10_hasLife_6 : decode cX10_hasLife 6 = .ok (.iconst 1, 1) := by decide +kernel
theorem dX10_hasLife_7 : decode cX10_hasLife 7 = .ok (.iload_n 1, 1) := by decide +kernel
theorem dX10_hasLife_8 : decode cX10_hasLife 8 = .ok (.invokevirtual 265, 3) := by decide +kernel
theorem dX10_hasLife_11 : decode cX10_hasLife 11 = .ok (.ireturn, 1) := by decide +kernel
theorem dX10_deed_0 : decode cX10_deed 0 = .ok (.aload_n 0, 1) := by decide +kernel
theorem dX10_deed_1 : decode cX10_deed 1 = .ok (.iconst 0, 1) := by decide +kernel
theorem dX10_deed_2 : decode cX10_deed 2 = .ok (.putfield 94, 3) := by decide +kernel
theorem dX10_deed_5 : decode cX10_deed 5 = .ok (.aload_n 0, 1) := by decide +kernel
theorem dX10_deed_6 : decode cX10_deed 6 = .ok (.iload_n 1, 1) := by decide +kernel
theorem dX10_deed_7 : decode cX10_deed 7 = .ok (.invokevirtual 296, 3) := by decide +kernel
theorem dX10_deed_10 : decode cX10_deed 10 = .ok (.ifCond .ne 6, 3) := by decide +kernel
theorem dX10_deed_13 : decode cX10_deed 13 = .ok (.bipush (-2), 2) := by decide +kernel
theorem dX10_deed_15 : decode cX10_deed 15 = .ok (.ireturn, 1) := by decide +kernel
theorem dX10_deed_16 : decode cX10_deed 16 = .ok (.iload_n 2, 1) := by decide +kernel
theorem dX10_deed_17 : decode cX10_deed 17 = .ok (.iconst (-1), 1) := by decide +kernel
theorem dX10_deed_18 : decode cX10_deed 18 = .ok (.if_icmp .ne 17, 3) := by decide +kernel
theorem dX10_deed_21 : decode cX10_deed 21 = .ok (.iload_n 3, 1) := by decide +kernel
theorem dX10_deed_22 : decode cX10_deed 22 = .ok (.ifCond .ne 10, 3) := by decide +kernel
theorem dX10_deed_25 : decode cX10_deed 25 = .ok (.aload_n 0, 1) := by decide +kernel
theorem dX10_deed_26 : decode cX10_deed 26 = .ok (.invokevirtual 299, 3) := by decide +kernel
theorem dX10_deed_29 : decode cX10_deed 29 = .ok (.goto 5, 3) := by decide +kernel
theorem dX10_deed_32 : decode cX10_deed 32 = .ok (.bipush (-2), 2) := by decide +kernel
theorem dX10_deed_34 : decode cX10_deed 34 = .ok (.ireturn, 1) := by decide +kernel
theorem dX10_deed_35 : decode cX10_deed 35 = .ok (.iload_n 2, 1) := by decide +kernel
theorem dX10_deed_36 : decode cX10_deed 36 = .ok (.iconst 0, 1) := by decide +kernel
theorem dX10_deed_37 : decode cX10_deed 37 = .ok (.aload_n 0, 1) := by decide +kernel
theorem dX10_deed_38 : decode cX10_deed 38 = .ok (.invokevirtual 299, 3) := by decide +kernel
theorem dX10_deed_41 : decode cX10_deed 41 = .ok (.iconst 1, 1) := by decide +kernel
theorem dX10_deed_42 : decode cX10_deed 42 = .ok (.isub, 1) := by decide +kernel
theorem dX10_deed_43 : decode cX10_deed 43 = .ok (.invokestatic 106, 3) := by decide +kernel
theorem dX10_deed_46 : decode cX10_deed 46 = .ok (.ifCond .eq 21, 3) := by decide +kernel
theorem dX10_deed_49 : decode cX10_deed 49 = .ok (.iload_n 3, 1) := by decide +kernel
theorem dX10_deed_50 : decode cX10_deed 50 = .ok (.iconst 0, 1) := by decide +kernel
theorem dX10_deed_51 : decode cX10_deed 51 = .ok (.iconst 1, 1) := by decide +kernel
theorem dX10_deed_52 : decode cX10_deed 52 = .ok (.invokestatic 106, 3) := by decide +kernel
theorem dX10_deed_55 : decode cX10_deed 55 = .ok (.ifCond .eq 12, 3) := by decide +kernel
theorem dX10_deed_58 : decode cX10_deed 58 = .ok (.aload_n 0, 1) := by decide +kernel
theorem dX10_deed_59 : decode cX10_deed 59 = .ok (.iload_n 2, 1) := by decide +kernel
theorem dX10_deed_60 : decode cX10_deed 60 = .ok (.iload_n 3, 1) := by decide +kernel
theorem dX10_deed_61 : decode cX10_deed 61 = .ok (.invokevirtual 302, 3) := by decide +kernel
theorem dX10_deed_64 : decode cX10_deed 64 = .ok (.goto 5, 3) := by decide +kernel
theorem dX10_deed_67 : decode cX10_deed 67 = .ok (.bipush (-2), 2) := by decide +kernel
theorem dX10_deed_69 : decode cX10_deed 69 = .ok (.ireturn, 1) := by decide +kernel
theorem dX10_begin_0 : decode cX10_begin 0 = .ok (.iconst 0, 1) := by decide +kernel
theorem dX10_begin_1 : decode cX10_begin 1 = .ok (.istore_n 1, 1) := by decide +kernel
theorem dX10_begin_2 : decode cX10_begin 2 = .ok (.iload_n 1, 1) := by decide +kernel
theorem dX10_begin_3 : decode cX10_begin 3 = .ok (.bipush 9, 2) := by decide +kernel
theorem dX10_begin_5 : decode cX10_begin 5 = .ok (.if_icmp .ge 25, 3) := by decide +kernel
theorem dX10_begin_8 : decode cX10_begin 8 = .ok (.aload_n 0, 1) := by decide +kernel
theorem dX10_begin_9 : decode cX10_begin 9 = .ok (.getfield 44, 3) := by decide +kernel
theorem dX10_begin_12 : decode cX10_begin 12 = .ok (.iload_n 1, 1) := by decide +kernel
theorem dX10_begin_13 : decode cX10_begin 13 = .ok (.iconst 0, 1) := by decide +kernel
theorem dX10_begin_14 : decode cX10_begin 14 = .ok (.iastore, 1) := by decide +kernel
theorem dX10_begin_15 : decode cX10_begin 15 = .ok (.aload_n 0, 1) := by decide +kernel
theorem dX10_begin_16 : decode cX10_begin 16 = .ok (.getfield 47, 3) := by decide +kernel
theorem dX10_begin_19 : decode cX10_begin 19 = .ok (.iload_n 1, 1) := by decide +kernel
theorem dX10_begin_20 : decode cX10_begin 20 = .ok (.sipush (-1000), 3) := by decide +kernel
theorem dX10_begin_23 : decode cX10_begin 23 = .ok (.iastore, 1) := by decide +kernel
theorem dX10_begin_24 : decode cX10_begin 24 = .ok (.iinc 1 1, 3) := by decide +kernel
theorem dX10_begin_27 : decode cX10_begin 27 = .ok (.goto (-25), 3) := by decide +kernel
theorem dX10_begin_30 : decode cX10_begin 30 = .ok (.aload_n 0, 1) := by decide +kernel
theorem dX10_begin_31 : decode cX10_begin 31 = .ok (.iconst 0, 1) := by decide +kernel
theorem dX10_begin_32 : decode cX10_begin 32 = .ok (.putfield 305, 3) := by decide +kernel
theorem dX10_begin_35 : decode cX10_begin 35 = .ok (.aload_n 0, 1) := by decide +kernel
theorem dX10_begin_36 : decode cX10_begin 36 = .ok (.aload_n 0, 1) := by decide +kernel
theorem dX10_begin_37 : decode cX10_begin 37 = .ok (.bipush 38, 2) := by decide +kernel
theorem dX10_begin_39 : decode cX10_begin 39 = .ok (.invokevirtual 277, 3) := by decide +kernel
theorem dX10_begin_42 : decode cX10_begin 42 = .ok (.putfield 308, 3) := by decide +kernel
theorem dX10_begin_45 : decode cX10_begin 45 = .ok (.aload_n 0, 1) := by decide +kernel
theorem dX10_begin_46 : decode cX10_begin 46 = .ok (.iconst 0, 1) := by decide +kernel
theorem dX10_begin_47 : decode cX10_begin 47 = .ok (.putfield 311, 3) := by decide +kernel
theorem dX10_begin_50 : decode cX10_begin 50 = .ok (.aload_n 0, 1) := by decide +kernel
theorem dX10_begin_51 : decode cX10_begin 51 = .ok (.iconst 0, 1) := by decide +kernel
theorem dX10_begin_52 : decode cX10_begin 52 = .ok (.putfield 314, 3) := by decide +kernel
theorem dX10_begin_55 : decode cX10_begin 55 = .ok (.aload_n 0, 1) := by decide +kernel
theorem dX10_begin_56 : decode cX10_begin 56 = .ok (.iconst 0, 1) := by decide +kernel
theorem dX10_begin_57 : decode cX10_begin 57 = .ok (.putfield 317, 3) := by decide +kernel
theorem dX10_begin_60 : decode cX10_begin 60 = .ok (.return_, 1) := by decide +kernel
theorem dX10_isWhole_0 : decode cX10_isWhole 0 = .ok (.aload_n 0, 1) := by decide +kernel
theorem dX10_isWhole_1 : decode cX10_isWhole 1 = .ok (.getfield 44, 3) := by decide +kernel
theorem dX10_isWhole_4 : decode cX10_isWhole 4 = .ok (.iload_n 1, 1) := by decide +kernel
theorem dX10_isWhole_5 : decode cX10_isWhole 5 = .ok (.iaload, 1) := by decide +kernel
theorem dX10_isWhole_6 : decode cX10_isWhole 6 = .ok (.aload_n 0, 1) := by decide +kernel
theorem dX10_isWhole_7 : decode cX10_isWhole 7 = .ok (.iconst 2, 1) := by decide +kernel
theorem dX10_isWhole_8 : decode cX10_isWhole 8 = .ok (.iload_n 1, 1) := by decide +kernel
theorem dX10_isWhole_9 : decode cX10_isWhole 9 = .ok (.iadd, 1) := by decide +kernel
theorem dX10_isWhole_10 : decode cX10_isWhole 10 = .ok (.invokevirtual 277, 3) := by decide +kernel
theorem dX10_isWhole_13 : decode cX10_isWhole 13 = .ok (.if_icmp .ne 7, 3) := by decide +kernel
theorem dX10_isWhole_16 : decode cX10_isWhole 16 = .ok (.iconst 1, 1) := by decide +kernel
theorem dX10_isWhole_17 : decode cX10_isWhole 17 = .ok (.goto 4, 3) := by decide +kernel
theorem dX10_isWhole_20 : decode cX10_isWhole 20 = .ok (.iconst 0, 1) := by decide +kernel
theorem dX10_isWhole_21 : decode cX10_isWhole 21 = .ok (.ireturn, 1) := by decide +kernel
theorem dX10_areWhole_0 : decode cX10_areWhole 0 = .ok (.iconst 0, 1) := by decide +kernel
theorem dX10_areWhole_1 : decode cX10_areWhole 1 = .ok (.istore_n 2, 1) := by decide +kernel
theorem dX10_areWhole_2 : decode cX10_areWhole 2 = .ok (.iload_n 2, 1) := by decide +kernel
theorem dX10_areWhole_3 : decode cX10_areWhole 3 = .ok (.aload_n 0, 1) := by decide +kernel
theorem dX10_areWhole_4 : decode cX10_areWhole 4 = .ok (.getfield 281, 3) := by decide +kernel
theorem dX10_areWhole_7 : decode cX10_areWhole 7 = .ok (.if_icmp .ge 27, 3) := by decide +kernel
theorem dX10_areWhole_10 : decode cX10_areWhole 10 = .ok (.iload_n 1, 1) := by decide +kernel
theorem dX10_areWhole_11 : decode cX10_areWhole 11 = .ok (.iload_n 2, 1) := by decide +kernel
theorem dX10_areWhole_12 : decode cX10_areWhole 12 = .ok (.invokestatic 98, 3) := by decide +kernel
theorem dX10_areWhole_15 : decode cX10_areWhole 15 = .ok (.ifCond .eq 13, 3) := by decide +kernel
theorem dX10_areWhole_18 : decode cX10_areWhole 18 = .ok (.aload_n 0, 1) := by decide +kernel
theorem dX10_areWhole_19 : decode cX10_areWhole 19 = .ok (.iload_n 2, 1) := by decide +kernel
theorem dX10_areWhole_20 : decode cX10_areWhole 20 = .ok (.invokevirtual 320, 3) := by decide +kernel
theorem dX10_areWhole_23 : decode cX10_areWhole 23 = .ok (.ifCond .ne 5, 3) := by decide +kernel
theorem dX10_areWhole_26 : decode cX10_areWhole 26 = .ok (.iconst 0, 1) := by decide +kernel
theorem dX10_areWhole_27 : decode cX10_areWhole 27 = .ok (.ireturn, 1) := by decide +kernel
theorem dX10_areWhole_28 : decode cX10_areWhole 28 = .ok (.iinc 2 1, 3) := by decide +kernel
theorem dX10_areWhole_31 : decode cX10_areWhole 31 = .ok (.goto (-29), 3) := by decide +kernel
theorem dX10_areWhole_34 : decode cX10_areWhole 34 = .ok (.iconst 1, 1) := by decide +kernel
theorem dX10_areWhole_35 : decode cX10_areWhole 35 = .ok (.ireturn, 1) := by decide +kernel
theorem dX10_loses_0 : decode cX10_loses 0 = .ok (.aload_n 0, 1) := by decide +kernel
theorem dX10_loses_1 : decode cX10_loses 1 = .ok (.getfield 44, 3) := by decide +kernel
theorem dX10_loses_4 : decode cX10_loses 4 = .ok (.iload_n 1, 1) := by decide +kernel
theorem dX10_loses_5 : decode cX10_loses 5 = .ok (.dup2, 1) := by decide +kernel
theorem dX10_loses_6 : decode cX10_loses 6 = .ok (.iaload, 1) := by decide +kernel
theorem dX10_loses_7 : decode cX10_loses 7 = .ok (.iload_n 2, 1) := by decide +kernel
theorem dX10_loses_8 : decode cX10_loses 8 = .ok (.isub, 1) := by decide +kernel
theorem dX10_loses_9 : decode cX10_loses 9 = .ok (.iastore, 1) := by decide +kernel
theorem dX10_loses_10 : decode cX10_loses 10 = .ok (.aload_n 0, 1) := by decide +kernel
theorem dX10_loses_11 : decode cX10_loses 11 = .ok (.dup, 1) := by decide +kernel
theorem dX10_loses_12 : decode cX10_loses 12 = .ok (.getfield 317, 3) := by decide +kernel
theorem dX10_loses_15 : decode cX10_loses 15 = .ok (.iload_n 2, 1) := by decide +kernel
theorem dX10_loses_16 : decode cX10_loses 16 = .ok (.iadd, 1) := by decide +kernel
theorem dX10_loses_17 : decode cX10_loses 17 = .ok (.putfield 317, 3) := by decide +kernel
theorem dX10_loses_20 : decode cX10_loses 20 = .ok (.aload_n 0, 1) := by decide +kernel
theorem dX10_loses_21 : decode cX10_loses 21 = .ok (.getfield 47, 3) := by decide +kernel
theorem dX10_loses_24 : decode cX10_loses 24 = .ok (.iload_n 1, 1) := by decide +kernel
theorem dX10_loses_25 : decode cX10_loses 25 = .ok (.sipush (-1000), 3) := by decide +kernel
theorem dX10_loses_28 : decode cX10_loses 28 = .ok (.iastore, 1) := by decide +kernel
theorem dX10_loses_29 : decode cX10_loses 29 = .ok (.return_, 1) := by decide +kernel
theorem dX10_sews_0 : decode cX10_sews 0 = .ok (.aload_n 0, 1) := by decide +kernel
theorem dX10_sews_1 : decode cX10_sews 1 = .ok (.iload_n 1, 1) := by decide +kernel
theorem dX10_sews_2 : decode cX10_sews 2 = .ok (.invokevirtual 290, 3) := by decide +kernel
theorem dX10_sews_5 : decode cX10_sews 5 = .ok (.ifCond .eq 37, 3) := by decide +kernel
theorem dX10_sews_8 : decode cX10_sews 8 = .ok (.aload_n 0, 1) := by decide +kernel
theorem dX10_sews_9 : decode cX10_sews 9 = .ok (.iload_n 1, 1) := by decide +kernel
theorem dX10_sews_10 : decode cX10_sews 10 = .ok (.invokevirtual 320, 3) := by decide +kernel
theorem dX10_sews_13 : decode cX10_sews 13 = .ok (.ifCond .ne 29, 3) := by decide +kernel
theorem dX10_sews_16 : decode cX10_sews 16 = .ok (.aload_n 0, 1) := by decide +kernel
theorem dX10_sews_17 : decode cX10_sews 17 = .ok (.getfield 311, 3) := by decide +kernel
theorem dX10_sews_20 : decode cX10_sews 20 = .ok (.aload_n 0, 1) := by decide +kernel
theorem dX10_sews_21 : decode cX10_sews 21 = .ok (.getfield 284, 3) := by decide +kernel
theorem dX10_sews_24 : decode cX10_sews 24 = .ok (.if_icmp .eq 18, 3) := by decide +kernel
theorem dX10_sews_27 : decode cX10_sews 27 = .ok (.aload_n 0, 1) := by decide +kernel
theorem dX10_sews_28 : decode cX10_sews 28 = .ok (.aload_n 0, 1) := by decide +kernel
theorem dX10_sews_29 : decode cX10_sews 29 = .ok (.bipush 29, 2) := by decide +kernel
theorem dX10_sews_31 : decode cX10_sews 31 = .ok (.iload_n 1, 1) := by decide +kernel
theorem dX10_sews_32 : decode cX10_sews 32 = .ok (.iadd, 1) := by decide +kernel
theorem dX10_sews_33 : decode cX10_sews 33 = .ok (.invokevirtual 277, 3) := by decide +kernel
theorem dX10_sews_36 : decode cX10_sews 36 = .ok (.invokevirtual 323, 3) := by decide +kernel
theorem dX10_sews_39 : decode cX10_sews 39 = .ok (.ifCond .ne 5, 3) := by decide +kernel
theorem dX10_sews_42 : decode cX10_sews 42 = .ok (.iconst 0, 1) := by decide +kernel
theorem dX10_sews_43 : decode cX10_sews 43 = .ok (.ireturn, 1) := by decide +kernel
theorem dX10_sews_44 : decode cX10_sews 44 = .ok (.aload_n 0, 1) := by decide +kernel
theorem dX10_sews_45 : decode cX10_sews 45 = .ok (.getfield 44, 3) := by decide +kernel
theorem dX10_sews_48 : decode cX10_sews 48 = .ok (.iload_n 1, 1) := by decide +kernel
theorem dX10_sews_49 : decode cX10_sews 49 = .ok (.dup2, 1) := by decide +kernel
theorem dX10_sews_50 : decode cX10_sews 50 = .ok (.iaload, 1) := by decide +kernel
theorem dX10_sews_51 : decode cX10_sews 51 = .ok (.iconst 1, 1) := by decide +kernel
theorem dX10_sews_52 : decode cX10_sews 52 = .ok (.iadd, 1) := by decide +kernel
theorem dX10_sews_53 : decode cX10_sews 53 = .ok (.iastore, 1) := by decide +kernel
theorem dX10_sews_54 : decode cX10_sews 54 = .ok (.aload_n 0, 1) := by decide +kernel
theorem dX10_sews_55 : decode cX10_sews 55 = .ok (.dup, 1) := by decide +kernel
theorem dX10_sews_56 : decode cX10_sews 56 = .ok (.getfield 311, 3) := by decide +kernel
theorem dX10_sews_59 : decode cX10_sews 59 = .ok (.iconst 1, 1) := by decide +kernel
theorem dX10_sews_60 : decode cX10_sews 60 = .ok (.iadd, 1) := by decide +kernel
theorem dX10_sews_61 : decode cX10_sews 61 = .ok (.putfield 311, 3) := by decide +kernel
theorem dX10_sews_64 : decode cX10_sews 64 = .ok (.aload_n 0, 1) := by decide +kernel
theorem dX10_sews_65 : decode cX10_sews 65 = .ok (.getfield 47, 3) := by decide +kernel
theorem dX10_sews_68 : decode cX10_sews 68 = .ok (.iload_n 1, 1) := by decide +kernel
theorem dX10_sews_69 : decode cX10_sews 69 = .ok (.aload_n 0, 1) := by decide +kernel
theorem dX10_sews_70 : decode cX10_sews 70 = .ok (.iload_n 1, 1) := by decide +kernel
theorem dX10_sews_71 : decode cX10_sews 71 = .ok (.invokevirtual 320, 3) := by decide +kernel
theorem dX10_sews_74 : decode cX10_sews 74 = .ok (.ifCond .eq 10, 3) := by decide +kernel
theorem dX10_sews_77 : decode cX10_sews 77 = .ok (.aload_n 0, 1) := by decide +kernel
theorem dX10_sews_78 : decode cX10_sews 78 = .ok (.getfield 308, 3) := by decide +kernel
theorem dX10_sews_81 : decode cX10_sews 81 = .ok (.goto 6, 3) := by decide +kernel
theorem dX10_sews_84 : decode cX10_sews 84 = .ok (.sipush (-1000), 3) := by decide +kernel
theorem dX10_sews_87 : decode cX10_sews 87 = .ok (.iastore, 1) := by decide +kernel
theorem dX10_sews_88 : decode cX10_sews 88 = .ok (.iconst 1, 1) := by decide +kernel
theorem dX10_sews_89 : decode cX10_sews 89 = .ok (.ireturn, 1) := by decide +kernel
theorem dX10_unpicks_0 : decode cX10_unpicks 0 = .ok (.aload_n 0, 1) := by decide +kernel
theorem dX10_unpicks_1 : decode cX10_unpicks 1 = .ok (.iload_n 1, 1) := by decide +kernel
theorem dX10_unpicks_2 : decode cX10_unpicks 2 = .ok (.invokevirtual 290, 3) := by decide +kernel
theorem dX10_unpicks_5 : decode cX10_unpicks 5 = .ok (.ifCond .eq 12, 3) := by decide +kernel
theorem dX10_unpicks_8 : decode cX10_unpicks 8 = .ok (.aload_n 0, 1) := by decide +kernel
theorem dX10_unpicks_9 : decode cX10_unpicks 9 = .ok (.getfield 44, 3) := by decide +kernel
theorem dX10_unpicks_12 : decode cX10_unpicks 12 = .ok (.iload_n 1, 1) := by decide +kernel
theorem dX10_unpicks_13 : decode cX10_unpicks 13 = .ok (.iaload, 1) := by decide +kernel
theorem dX10_unpicks_14 : decode cX10_unpicks 14 = .ok (.ifCond .ne 5, 3) := by decide +kernel
theorem dX10_unpicks_17 : decode cX10_unpicks 17 = .ok (.iconst 0, 1) := by decide +kernel
theorem dX10_unpicks_18 : decode cX10_unpicks 18 = .ok (.ireturn, 1) := by decide +kernel
theorem dX10_unpicks_19 : decode cX10_unpicks 19 = .ok (.iconst 0, 1) := by decide +kernel
theorem dX10_unpicks_20 : decode cX10_unpicks 20 = .ok (.istore_n 2, 1) := by decide +kernel
theorem dX10_unpicks_21 : decode cX10_unpicks 21 = .ok (.iload_n 2, 1) := by decide +kernel
theorem dX10_unpicks_22 : decode cX10_unpicks 22 = .ok (.aload_n 0, 1) := by decide +kernel
theorem dX10_unpicks_23 : decode cX10_unpicks 23 = .ok (.getfield 281, 3) := by decide +kernel
theorem dX10_unpicks_26 : decode cX10_unpicks 26 = .ok (.if_icmp .ge 35, 3) := by decide +kernel
theorem dX10_unpicks_29 : decode cX10_unpicks 29 = .ok (.aload_n 0, 1) := by decide +kernel
theorem dX10_unpicks_30 : decode cX10_unpicks 30 = .ok (.bipush 29, 2) := by decide +kernel
theorem dX10_unpicks_32 : decode cX10_unpicks 32 = .ok (.iload_n 2, 1) := by decide +kernel
theorem dX10_unpicks_33 : decode cX10_unpicks 33 = .ok (.iadd, 1) := by decide +kernel
theorem dX10_unpicks_34 : decode cX10_unpicks 34 = .ok (.invokevirtual 277, 3) := by decide +kernel
theorem dX10_unpicks_37 : decode cX10_unpicks 37 = .ok (.iload_n 1, 1) := by decide +kernel
theorem dX10_unpicks_38 : decode cX10_unpicks 38 = .ok (.invokestatic 98, 3) := by decide +kernel
theorem dX10_unpicks_41 : decode cX10_unpicks 41 = .ok (.ifCond .eq 14, 3) := by decide +kernel
theorem dX10_unpicks_44 : decode cX10_unpicks 44 = .ok (.aload_n 0, 1) := by decide +kernel
theorem dX10_unpicks_45 : decode cX10_unpicks 45 = .ok (.getfield 44, 3) := by decide +kernel
theorem dX10_unpicks_48 : decode cX10_unpicks 48 = .ok (.iload_n 2, 1) := by decide +kernel
theorem dX10_unpicks_49 : decode cX10_unpicks 49 = .ok (.iaload, 1) := by decide +kernel
theorem dX10_unpicks_50 : decode cX10_unpicks 50 = .ok (.ifCond .le 5, 3) := by decide +kernel
theorem dX10_unpicks_53 : decode cX10_unpicks 53 = .ok (.iconst 0, 1) := by decide +kernel
theorem dX10_unpicks_54 : decode cX10_unpicks 54 = .ok (.ireturn, 1) := by decide +kernel
theorem dX10_unpicks_55 : decode cX10_unpicks 55 = .ok (.iinc 2 1, 3) := by decide +kernel
theorem dX10_unpicks_58 : decode cX10_unpicks 58 = .ok (.goto (-37), 3) := by decide +kernel
theorem dX10_unpicks_61 : decode cX10_unpicks 61 = .ok (.aload_n 0, 1) := by decide +kernel
theorem dX10_unpicks_62 : decode cX10_unpicks 62 = .ok (.iload_n 1, 1) := by decide +kernel
theorem dX10_unpicks_63 : decode cX10_unpicks 63 = .ok (.iconst 2, 1) := by decide +kernel
theorem dX10_unpicks_64 : decode cX10_unpicks 64 = .ok (.aload_n 0, 1) := by decide +kernel
theorem dX10_unpicks_65 : decode cX10_unpicks 65 = .ok (.getfield 44, 3) := by decide +kernel
theorem dX10_unpicks_68 : decode cX10_unpicks 68 = .ok (.iload_n 1, 1) := by decide +kernel
theorem dX10_unpicks_69 : decode cX10_unpicks 69 = .ok (.iaload, 1) := by decide +kernel
theorem dX10_unpicks_70 : decode cX10_unpicks 70 = .ok (.invokestatic 326, 3) := by decide +kernel
theorem dX10_unpicks_73 : decode cX10_unpicks 73 = .ok (.invokevirtual 329, 3) := by decide +kernel
theorem dX10_unpicks_76 : decode cX10_unpicks 76 = .ok (.iconst 1, 1) := by decide +kernel
theorem dX10_unpicks_77 : decode cX10_unpicks 77 = .ok (.ireturn, 1) := by decide +kernel
theorem dX10_tears_0 : decode cX10_tears 0 = .ok (.aload_n 0, 1) := by decide +kernel
theorem dX10_tears_1 : decode cX10_tears 1 = .ok (.iload_n 1, 1) := by decide +kernel
theorem dX10_tears_2 : decode cX10_tears 2 = .ok (.invokevirtual 290, 3) := by decide +kernel
theorem dX10_tears_5 : decode cX10_tears 5 = .ok (.ifCond .eq 12, 3) := by decide +kernel
theorem dX10_tears_8 : decode cX10_tears 8 = .ok (.aload_n 0, 1) := by decide +kernel
theorem dX10_tears_9 : decode cX10_tears 9 = .ok (.getfield 44, 3) := by decide +kernel
theorem dX10_tears_12 : decode cX10_tears 12 = .ok (.iload_n 1, 1) := by decide +kernel
theorem dX10_tears_13 : decode cX10_tears 13 = .ok (.iaload, 1) := by decide +kernel
theorem dX10_tears_14 : decode cX10_tears 14 = .ok (.ifCond .ne 5, 3) := by decide +kernel
theorem dX10_tears_17 : decode cX10_tears 17 = .ok (.iconst 0, 1) := by decide +kernel
theorem dX10_tears_18 : decode cX10_tears 18 = .ok (.ireturn, 1) := by decide +kernel
theorem dX10_tears_19 : decode cX10_tears 19 = .ok (.aload_n 0, 1) := by decide +kernel
theorem dX10_tears_20 : decode cX10_tears 20 = .ok (.iload_n 1, 1) := by decide +kernel
theorem dX10_tears_21 : decode cX10_tears 21 = .ok (.aload_n 0, 1) := by decide +kernel
theorem dX10_tears_22 : decode cX10_tears 22 = .ok (.getfield 44, 3) := by decide +kernel
theorem dX10_tears_25 : decode cX10_tears 25 = .ok (.iload_n 1, 1) := by decide +kernel
theorem dX10_tears_26 : decode cX10_tears 26 = .ok (.iaload, 1) := by decide +kernel
theorem dX10_tears_27 : decode cX10_tears 27 = .ok (.invokevirtual 329, 3) := by decide +kernel
theorem dX10_tears_30 : decode cX10_tears 30 = .ok (.iconst 1, 1) := by decide +kernel
theorem dX10_tears_31 : decode cX10_tears 31 = .ok (.ireturn, 1) := by decide +kernel
theorem dX10_grows_0 : decode cX10_grows 0 = .ok (.aload_n 0, 1) := by decide +kernel
theorem dX10_grows_1 : decode cX10_grows 1 = .ok (.dup, 1) := by decide +kernel
theorem dX10_grows_2 : decode cX10_grows 2 = .ok (.getfield 308, 3) := by decide +kernel
theorem dX10_grows_5 : decode cX10_grows 5 = .ok (.iload_n 1, 1) := by decide +kernel
theorem dX10_grows_6 : decode cX10_grows 6 = .ok (.iadd, 1) := by decide +kernel
theorem dX10_grows_7 : decode cX10_grows 7 = .ok (.putfield 308, 3) := by decide +kernel
theorem dX10_grows_10 : decode cX10_grows 10 = .ok (.iconst 0, 1) := by decide +kernel
theorem dX10_grows_11 : decode cX10_grows 11 = .ok (.istore_n 2, 1) := by decide +kernel
theorem dX10_grows_12 : decode cX10_grows 12 = .ok (.iload_n 2, 1) := by decide +kernel
theorem dX10_grows_13 : decode cX10_grows 13 = .ok (.aload_n 0, 1) := by decide +kernel
theorem dX10_grows_14 : decode cX10_grows 14 = .ok (.getfield 281, 3) := by decide +kernel
theorem dX10_grows_17 : decode cX10_grows 17 = .ok (.if_icmp .ge 60, 3) := by decide +kernel
theorem dX10_grows_20 : decode cX10_grows 20 = .ok (.aload_n 0, 1) := by decide +kernel
theorem dX10_grows_21 : decode cX10_grows 21 = .ok (.iload_n 2, 1) := by decide +kernel
theorem dX10_grows_22 : decode cX10_grows 22 = .ok (.invokevirtual 320, 3) := by decide +kernel
theorem dX10_grows_25 : decode cX10_grows 25 = .ok (.ifCond .eq 46, 3) := by decide +kernel
theorem dX10_grows_28 : decode cX10_grows 28 = .ok (.aload_n 0, 1) := by decide +kernel
theorem dX10_grows_29 : decode cX10_grows 29 = .ok (.getfield 308, 3) := by decide +kernel
theorem dX10_grows_32 : decode cX10_grows 32 = .ok (.aload_n 0, 1) := by decide +kernel
theorem dX10_grows_33 : decode cX10_grows 33 = .ok (.getfield 47, 3) := by decide +kernel
theorem dX10_grows_36 : decode cX10_grows 36 = .ok (.iload_n 2, 1) := by decide +kernel
theorem dX10_grows_37 : decode cX10_grows 37 = .ok (.iaload, 1) := by decide +kernel
theorem dX10_grows_38 : decode cX10_grows 38 = .ok (.isub, 1) := by decide +kernel
theorem dX10_grows_39 : decode cX10_grows 39 = .ok (.aload_n 0, 1) := by decide +kernel
theorem dX10_grows_40 : decode cX10_grows 40 = .ok (.bipush 20, 2) := by decide +kernel
theorem dX10_grows_42 : decode cX10_grows 42 = .ok (.iload_n 2, 1) := by decide +kernel
theorem dX10_grows_43 : decode cX10_grows 43 = .ok (.iadd, 1) := by decide +kernel
theorem dX10_grows_44 : decode cX10_grows 44 = .ok (.invokevirtual 277, 3) := by decide +kernel
theorem dX10_grows_47 : decode cX10_grows 47 = .ok (.if_icmp .le 24, 3) := by decide +kernel
theorem dX10_grows_50 : decode cX10_grows 50 = .ok (.aload_n 0, 1) := by decide +kernel
theorem dX10_grows_51 : decode cX10_grows 51 = .ok (.dup, 1) := by decide +kernel
theorem dX10_grows_52 : decode cX10_grows 52 = .ok (.getfield 314, 3) := by decide +kernel
theorem dX10_grows_55 : decode cX10_grows 55 = .ok (.iconst 1, 1) := by decide +kernel
theorem dX10_grows_56 : decode cX10_grows 56 = .ok (.iadd, 1) := by decide +kernel
theorem dX10_grows_57 : decode cX10_grows 57 = .ok (.putfield 314, 3) := by decide +kernel
theorem dX10_grows_60 : decode cX10_grows 60 = .ok (.aload_n 0, 1) := by decide +kernel
theorem dX10_grows_61 : decode cX10_grows 61 = .ok (.iload_n 2, 1) := by decide +kernel
theorem dX10_grows_62 : decode cX10_grows 62 = .ok (.aload_n 0, 1) := by decide +kernel
theorem dX10_grows_63 : decode cX10_grows 63 = .ok (.getfield 44, 3) := by decide +kernel
theorem dX10_grows_66 : decode cX10_grows 66 = .ok (.iload_n 2, 1) := by decide +kernel
theorem dX10_grows_67 : decode cX10_grows 67 = .ok (.iaload, 1) := by decide +kernel
theorem dX10_grows_68 : decode cX10_grows 68 = .ok (.invokevirtual 329, 3) := by decide +kernel
theorem dX10_grows_71 : decode cX10_grows 71 = .ok (.iinc 2 1, 3) := by decide +kernel
theorem dX10_grows_74 : decode cX10_grows 74 = .ok (.goto (-62), 3) := by decide +kernel
theorem dX10_grows_77 : decode cX10_grows 77 = .ok (.return_, 1) := by decide +kernel
theorem dX10_goesOn_0 : decode cX10_goesOn 0 = .ok (.aload_n 0, 1) := by decide +kernel
theorem dX10_goesOn_1 : decode cX10_goesOn 1 = .ok (.getfield 305, 3) := by decide +kernel
theorem dX10_goesOn_4 : decode cX10_goesOn 4 = .ok (.bipush 99, 2) := by decide +kernel
theorem dX10_goesOn_6 : decode cX10_goesOn 6 = .ok (.if_icmp .ne 5, 3) := by decide +kernel
theorem dX10_goesOn_9 : decode cX10_goesOn 9 = .ok (.iconst 0, 1) := by decide +kernel
theorem dX10_goesOn_10 : decode cX10_goesOn 10 = .ok (.ireturn, 1) := by decide +kernel
theorem dX10_goesOn_11 : decode cX10_goesOn 11 = .ok (.aload_n 0, 1) := by decide +kernel
theorem dX10_goesOn_12 : decode cX10_goesOn 12 = .ok (.dup, 1) := by decide +kernel
theorem dX10_goesOn_13 : decode cX10_goesOn 13 = .ok (.getfield 305, 3) := by decide +kernel
theorem dX10_goesOn_16 : decode cX10_goesOn 16 = .ok (.iconst 1, 1) := by decide +kernel
theorem dX10_goesOn_17 : decode cX10_goesOn 17 = .ok (.iadd, 1) := by decide +kernel
theorem dX10_goesOn_18 : decode cX10_goesOn 18 = .ok (.putfield 305, 3) := by decide +kernel
theorem dX10_goesOn_21 : decode cX10_goesOn 21 = .ok (.aload_n 0, 1) := by decide +kernel
theorem dX10_goesOn_22 : decode cX10_goesOn 22 = .ok (.iconst 0, 1) := by decide +kernel
theorem dX10_goesOn_23 : decode cX10_goesOn 23 = .ok (.putfield 311, 3) := by decide +kernel
theorem dX10_goesOn_26 : decode cX10_goesOn 26 = .ok (.aload_n 0, 1) := by decide +kernel
theorem dX10_goesOn_27 : decode cX10_goesOn 27 = .ok (.aload_n 0, 1) := by decide +kernel
theorem dX10_goesOn_28 : decode cX10_goesOn 28 = .ok (.bipush 38, 2) := by decide +kernel
theorem dX10_goesOn_30 : decode cX10_goesOn 30 = .ok (.aload_n 0, 1) := by decide +kernel
theorem dX10_goesOn_31 : decode cX10_goesOn 31 = .ok (.getfield 305, 3) := by decide +kernel
theorem dX10_goesOn_34 : decode cX10_goesOn 34 = .ok (.iadd, 1) := by decide +kernel
theorem dX10_goesOn_35 : decode cX10_goesOn 35 = .ok (.invokevirtual 277, 3) := by decide +kernel
theorem dX10_goesOn_38 : decode cX10_goesOn 38 = .ok (.invokevirtual 332, 3) := by decide +kernel
theorem dX10_goesOn_41 : decode cX10_goesOn 41 = .ok (.iconst 1, 1) := by decide +kernel
theorem dX10_goesOn_42 : decode cX10_goesOn 42 = .ok (.ireturn, 1) := by decide +kernel
theorem dX10_does_0 : decode cX10_does 0 = .ok (.aload_n 0, 1) := by decide +kernel
theorem dX10_does_1 : decode cX10_does 1 = .ok (.iload_n 1, 1) := by decide +kernel
theorem dX10_does_2 : decode cX10_does 2 = .ok (.iconst 1, 1) := by decide +kernel
theorem dX10_does_3 : decode cX10_does 3 = .ok (.invokevirtual 302, 3) := by decide +kernel
theorem dX10_does_6 : decode cX10_does 6 = .ok (.istore_n 2, 1) := by decide +kernel
theorem dX10_does_7 : decode cX10_does 7 = .ok (.aload_n 0, 1) := by decide +kernel
theorem dX10_does_8 : decode cX10_does 8 = .ok (.iload_n 1, 1) := by decide +kernel
theorem dX10_does_9 : decode cX10_does 9 = .ok (.iconst 0, 1) := by decide +kernel
theorem dX10_does_10 : decode cX10_does 10 = .ok (.invokevirtual 302, 3) := by decide +kernel
theorem dX10_does_13 : decode cX10_does 13 = .ok (.tableswitch 68 0 4 #[35, 41, 47, 53, 60], 35) := by decide +kernel
theorem dX10_does_48 : decode cX10_does 48 = .ok (.aload_n 0, 1) := by decide +kernel
theorem dX10_does_49 : decode cX10_does 49 = .ok (.iload_n 2, 1) := by decide +kernel
theorem dX10_does_50 : decode cX10_does 50 = .ok (.invokevirtual 335, 3) := by decide +kernel
theorem dX10_does_53 : decode cX10_does 53 = .ok (.ireturn, 1) := by decide +kernel
theorem dX10_does_54 : decode cX10_does 54 = .ok (.aload_n 0, 1) := by decide +kernel
theorem dX10_does_55 : decode cX10_does 55 = .ok (.iload_n 2, 1) := by decide +kernel
theorem dX10_does_56 : decode cX10_does 56 = .ok (.invokevirtual 338, 3) := by decide +kernel
theorem dX10_does_59 : decode cX10_does 59 = .ok (.ireturn, 1) := by decide +kernel
theorem dX10_does_60 : decode cX10_does 60 = .ok (.aload_n 0, 1) := by decide +kernel
theorem dX10_does_61 : decode cX10_does 61 = .ok (.iload_n 2, 1) := by decide +kernel
theorem dX10_does_62 : decode cX10_does 62 = .ok (.invokevirtual 341, 3) := by decide +kernel
theorem dX10_does_65 : decode cX10_does 65 = .ok (.ireturn, 1) := by decide +kernel
theorem dX10_does_66 : decode cX10_does 66 = .ok (.aload_n 0, 1) := by decide +kernel
theorem dX10_does_67 : decode cX10_does 67 = .ok (.iload_n 2, 1) := by decide +kernel
theorem dX10_does_68 : decode cX10_does 68 = .ok (.invokevirtual 332, 3) := by decide +kernel
theorem dX10_does_71 : decode cX10_does 71 = .ok (.iconst 1, 1) := by decide +kernel
theorem dX10_does_72 : decode cX10_does 72 = .ok (.ireturn, 1) := by decide +kernel
theorem dX10_does_73 : decode cX10_does 73 = .ok (.aload_n 0, 1) := by decide +kernel
theorem dX10_does_74 : decode cX10_does 74 = .ok (.iload_n 2, 1) := by decide +kernel
theorem dX10_does_75 : decode cX10_does 75 = .ok (.ineg, 1) := by decide +kernel
theorem dX10_does_76 : decode cX10_does 76 = .ok (.invokevirtual 332, 3) := by decide +kernel
theorem dX10_does_79 : decode cX10_does 79 = .ok (.iconst 1, 1) := by decide +kernel
theorem dX10_does_80 : decode cX10_does 80 = .ok (.ireturn, 1) := by decide +kernel
theorem dX10_does_81 : decode cX10_does 81 = .ok (.aload_n 0, 1) := by decide +kernel
theorem dX10_does_82 : decode cX10_does 82 = .ok (.invokevirtual 344, 3) := by decide +kernel
theorem dX10_does_85 : decode cX10_does 85 = .ok (.ireturn, 1) := by decide +kernel
theorem dX10_play_0 : decode cX10_play 0 = .ok (.aload_n 0, 1) := by decide +kernel
theorem dX10_play_1 : decode cX10_play 1 = .ok (.invokevirtual 347, 3) := by decide +kernel
theorem dX10_play_4 : decode cX10_play 4 = .ok (.iconst 0, 1) := by decide +kernel
theorem dX10_play_5 : decode cX10_play 5 = .ok (.istore_n 2, 1) := by decide +kernel
theorem dX10_play_6 : decode cX10_play 6 = .ok (.iload_n 2, 1) := by decide +kernel
theorem dX10_play_7 : decode cX10_play 7 = .ok (.iload_n 1, 1) := by decide +kernel
theorem dX10_play_8 : decode cX10_play 8 = .ok (.if_icmp .ge 17, 3) := by decide +kernel
theorem dX10_play_11 : decode cX10_play 11 = .ok (.aload_n 0, 1) := by decide +kernel
theorem dX10_play_12 : decode cX10_play 12 = .ok (.iload_n 2, 1) := by decide +kernel
theorem dX10_play_13 : decode cX10_play 13 = .ok (.invokevirtual 350, 3) := by decide +kernel
theorem dX10_play_16 : decode cX10_play 16 = .ok (.ifCond .eq 9, 3) := by decide +kernel
theorem dX10_play_19 : decode cX10_play 19 = .ok (.iinc 2 1, 3) := by decide +kernel
theorem dX10_play_22 : decode cX10_play 22 = .ok (.goto (-16), 3) := by decide +kernel
theorem dX10_play_25 : decode cX10_play 25 = .ok (.iload_n 2, 1) := by decide +kernel
theorem dX10_play_26 : decode cX10_play 26 = .ok (.ireturn, 1) := by decide +kernel
theorem dX10_layAll_0 : decode cX10_layAll 0 = .ok (.aload_n 0, 1) := by decide +kernel
theorem dX10_layAll_1 : decode cX10_layAll 1 = .ok (.iload_n 2, 1) := by decide +kernel
theorem dX10_layAll_2 : decode cX10_layAll 2 = .ok (.invokevirtual 296, 3) := by decide +kernel
theorem dX10_layAll_5 : decode cX10_layAll 5 = .ok (.ifCond .eq 15, 3) := by decide +kernel
theorem dX10_layAll_8 : decode cX10_layAll 8 = .ok (.aload_n 0, 1) := by decide +kernel
theorem dX10_layAll_9 : decode cX10_layAll 9 = .ok (.iload_n 1, 1) := by decide +kernel
theorem dX10_layAll_10 : decode cX10_layAll 10 = .ok (.invokevirtual 287, 3) := by decide +kernel
theorem dX10_layAll_13 : decode cX10_layAll 13 = .ok (.ifCond .eq 7, 3) := by decide +kernel
theorem dX10_layAll_16 : decode cX10_layAll 16 = .ok (.iconst 1, 1) := by decide +kernel
theorem dX10_layAll_17 : decode cX10_layAll 17 = .ok (.goto 4, 3) := by decide +kernel
theorem dX10_layAll_20 : decode cX10_layAll 20 = .ok (.iconst 0, 1) := by decide +kernel
theorem dX10_layAll_21 : decode cX10_layAll 21 = .ok (.ireturn, 1) := by decide +kernel
theorem dX10_stop_0 : decode cX10_stop 0 = .ok (.aload_n 0, 1) := by decide +kernel
theorem dX10_stop_1 : decode cX10_stop 1 = .ok (.iconst 0, 1) := by decide +kernel
theorem dX10_stop_2 : decode cX10_stop 2 = .ok (.putfield 94, 3) := by decide +kernel
theorem dX10_stop_5 : decode cX10_stop 5 = .ok (.aload_n 0, 1) := by decide +kernel
theorem dX10_stop_6 : decode cX10_stop 6 = .ok (.iload_n 1, 1) := by decide +kernel
theorem dX10_stop_7 : decode cX10_stop 7 = .ok (.iload_n 2, 1) := by decide +kernel
theorem dX10_stop_8 : decode cX10_stop 8 = .ok (.invokevirtual 353, 3) := by decide +kernel
theorem dX10_stop_11 : decode cX10_stop 11 = .ok (.ifCond .eq 14, 3) := by decide +kernel
theorem dX10_stop_14 : decode cX10_stop 14 = .ok (.aload_n 0, 1) := by decide +kernel
theorem dX10_stop_15 : decode cX10_stop 15 = .ok (.aload_n 0, 1) := by decide +kernel
theorem dX10_stop_16 : decode cX10_stop 16 = .ok (.invokevirtual 299, 3) := by decide +kernel
theorem dX10_stop_19 : decode cX10_stop 19 = .ok (.invokevirtual 356, 3) := by decide +kernel
theorem dX10_stop_22 : decode cX10_stop 22 = .ok (.goto 4, 3) := by decide +kernel
theorem dX10_stop_25 : decode cX10_stop 25 = .ok (.iconst (-1), 1) := by decide +kernel
theorem dX10_stop_26 : decode cX10_stop 26 = .ok (.ireturn, 1) := by decide +kernel
theorem dX10_ofState_0 : decode cX10_ofState 0 = .ok (.iload_n 1, 1) := by decide +kernel
theorem dX10_ofState_1 : decode cX10_ofState 1 = .ok (.bipush 10, 2) := by decide +kernel
theorem dX10_ofState_3 : decode cX10_ofState 3 = .ok (.bipush 9, 2) := by decide +kernel
theorem dX10_ofState_5 : decode cX10_ofState 5 = .ok (.aload_n 0, 1) := by decide +kernel
theorem dX10_ofState_6 : decode cX10_ofState 6 = .ok (.getfield 281, 3) := by decide +kernel
theorem dX10_ofState_9 : decode cX10_ofState 9 = .ok (.iadd, 1) := by decide +kernel
theorem dX10_ofState_10 : decode cX10_ofState 10 = .ok (.invokestatic 106, 3) := by decide +kernel
theorem dX10_ofState_13 : decode cX10_ofState 13 = .ok (.ifCond .eq 13, 3) := by decide +kernel
theorem dX10_ofState_16 : decode cX10_ofState 16 = .ok (.aload_n 0, 1) := by decide +kernel
theorem dX10_ofState_17 : decode cX10_ofState 17 = .ok (.getfield 44, 3) := by decide +kernel
theorem dX10_ofState_20 : decode cX10_ofState 20 = .ok (.iload_n 1, 1) := by decide +kernel
theorem dX10_ofState_21 : decode cX10_ofState 21 = .ok (.bipush 10, 2) := by decide +kernel
theorem dX10_ofState_23 : decode cX10_ofState 23 = .ok (.isub, 1) := by decide +kernel
theorem dX10_ofState_24 : decode cX10_ofState 24 = .ok (.iaload, 1) := by decide +kernel
theorem dX10_ofState_25 : decode cX10_ofState 25 = .ok (.ireturn, 1) := by decide +kernel
theorem dX10_ofState_26 : decode cX10_ofState 26 = .ok (.iload_n 1, 1) := by decide +kernel
theorem dX10_ofState_27 : decode cX10_ofState 27 = .ok (.bipush 20, 2) := by decide +kernel
theorem dX10_ofState_29 : decode cX10_ofState 29 = .ok (.bipush 19, 2) := by decide +kernel
theorem dX10_ofState_31 : decode cX10_ofState 31 = .ok (.aload_n 0, 1) := by decide +kernel
theorem dX10_ofState_32 : decode cX10_ofState 32 = .ok (.getfield 281, 3) := by decide +kernel
theorem dX10_ofState_35 : decode cX10_ofState 35 = .ok (.iadd, 1) := by decide +kernel
theorem dX10_ofState_36 : decode cX10_ofState 36 = .ok (.invokestatic 106, 3) := by decide +kernel
theorem dX10_ofState_39 : decode cX10_ofState 39 = .ok (.ifCond .eq 13, 3) := by decide +kernel
theorem dX10_ofState_42 : decode cX10_ofState 42 = .ok (.aload_n 0, 1) := by decide +kernel
theorem dX10_ofState_43 : decode cX10_ofState 43 = .ok (.getfield 47, 3) := by decide +kernel
theorem dX10_ofState_46 : decode cX10_ofState 46 = .ok (.iload_n 1, 1) := by decide +kernel
theorem dX10_ofState_47 : decode cX10_ofState 47 = .ok (.bipush 20, 2) := by decide +kernel
theorem dX10_ofState_49 : decode cX10_ofState 49 = .ok (.isub, 1) := by decide +kernel
theorem dX10_ofState_50 : decode cX10_ofState 50 = .ok (.iaload, 1) := by decide +kernel
theorem dX10_ofState_51 : decode cX10_ofState 51 = .ok (.ireturn, 1) := by decide +kernel
theorem dX10_ofState_52 : decode cX10_ofState 52 = .ok (.iconst 0, 1) := by decide +kernel
theorem dX10_ofState_53 : decode cX10_ofState 53 = .ok (.istore_n 2, 1) := by decide +kernel
theorem dX10_ofState_54 : decode cX10_ofState 54 = .ok (.iconst 0, 1) := by decide +kernel
theorem dX10_ofState_55 : decode cX10_ofState 55 = .ok (.istore_n 3, 1) := by decide +kernel
theorem dX10_ofState_56 : decode cX10_ofState 56 = .ok (.iload_n 3, 1) := by decide +kernel
theorem dX10_ofState_57 : decode cX10_ofState 57 = .ok (.aload_n 0, 1) := by decide +kernel
theorem dX10_ofState_58 : decode cX10_ofState 58 = .ok (.getfield 281, 3) := by decide +kernel
theorem dX10_ofState_61 : decode cX10_ofState 61 = .ok (.if_icmp .ge 27, 3) := by decide +kernel
theorem dX10_ofState_64 : decode cX10_ofState 64 = .ok (.iload_n 2, 1) := by decide +kernel
theorem dX10_ofState_65 : decode cX10_ofState 65 = .ok (.aload_n 0, 1) := by decide +kernel
theorem dX10_ofState_66 : decode cX10_ofState 66 = .ok (.iload_n 3, 1) := by decide +kernel
theorem dX10_ofState_67 : decode cX10_ofState 67 = .ok (.invokevirtual 320, 3) := by decide +kernel
theorem dX10_ofState_70 : decode cX10_ofState 70 = .ok (.ifCond .eq 9, 3) := by decide +kernel
theorem dX10_ofState_73 : decode cX10_ofState 73 = .ok (.iconst 1, 1) := by decide +kernel
theorem dX10_ofState_74 : decode cX10_ofState 74 = .ok (.iload_n 3, 1) := by decide +kernel
theorem dX10_ofState_75 : decode cX10_ofState 75 = .ok (.ishl, 1) := by decide +kernel
theorem dX10_ofState_76 : decode cX10_ofState 76 = .ok (.goto 4, 3) := by decide +kernel
theorem dX10_ofState_79 : decode cX10_ofState 79 = .ok (.iconst 0, 1) := by decide +kernel
theorem dX10_ofState_80 : decode cX10_ofState 80 = .ok (.ior, 1) := by decide +kernel
theorem dX10_ofState_81 : decode cX10_ofState 81 = .ok (.istore_n 2, 1) := by decide +kernel
theorem dX10_ofState_82 : decode cX10_ofState 82 = .ok (.iinc 3 1, 3) := by decide +kernel
theorem dX10_ofState_85 : decode cX10_ofState 85 = .ok (.goto (-29), 3) := by decide +kernel
theorem dX10_ofState_88 : decode cX10_ofState 88 = .ok (.iload_n 1, 1) := by decide +kernel
theorem dX10_ofState_89 : decode cX10_ofState 89 = .ok (.tableswitch 66 0 5 #[39, 44, 49, 54, 59, 64], 39) := by decide +kernel
theorem dX10_ofState_128 : decode cX10_ofState 128 = .ok (.aload_n 0, 1) := by decide +kernel
theorem dX10_ofState_129 : decode cX10_ofState 129 = .ok (.getfield 305, 3) := by decide +kernel
theorem dX10_ofState_132 : decode cX10_ofState 132 = .ok (.ireturn, 1) := by decide +kernel
theorem dX10_ofState_133 : decode cX10_ofState 133 = .ok (.aload_n 0, 1) := by decide +kernel
theorem dX10_ofState_134 : decode cX10_ofState 134 = .ok (.getfield 308, 3) := by decide +kernel
theorem dX10_ofState_137 : decode cX10_ofState 137 = .ok (.ireturn, 1) := by decide +kernel
theorem dX10_ofState_138 : decode cX10_ofState 138 = .ok (.aload_n 0, 1) := by decide +kernel
theorem dX10_ofState_139 : decode cX10_ofState 139 = .ok (.getfield 311, 3) := by decide +kernel
theorem dX10_ofState_142 : decode cX10_ofState 142 = .ok (.ireturn, 1) := by decide +kernel
theorem dX10_ofState_143 : decode cX10_ofState 143 = .ok (.aload_n 0, 1) := by decide +kernel
theorem dX10_ofState_144 : decode cX10_ofState 144 = .ok (.getfield 314, 3) := by decide +kernel
theorem dX10_ofState_147 : decode cX10_ofState 147 = .ok (.ireturn, 1) := by decide +kernel
theorem dX10_ofState_148 : decode cX10_ofState 148 = .ok (.aload_n 0, 1) := by decide +kernel
theorem dX10_ofState_149 : decode cX10_ofState 149 = .ok (.getfield 317, 3) := by decide +kernel
theorem dX10_ofState_152 : decode cX10_ofState 152 = .ok (.ireturn, 1) := by decide +kernel
theorem dX10_ofState_153 : decode cX10_ofState 153 = .ok (.iload_n 2, 1) := by decide +kernel
theorem dX10_ofState_154 : decode cX10_ofState 154 = .ok (.ireturn, 1) := by decide +kernel
theorem dX10_ofState_155 : decode cX10_ofState 155 = .ok (.sipush (-1000), 3) := by decide +kernel
theorem dX10_ofState_158 : decode cX10_ofState 158 = .ok (.ireturn, 1) := by decide +kernel
theorem dX10_state_0 : decode cX10_state 0 = .ok (.aload_n 0, 1) := by decide +kernel
theorem dX10_state_1 : decode cX10_state 1 = .ok (.iconst 0, 1) := by decide +kernel
theorem dX10_state_2 : decode cX10_state 2 = .ok (.putfield 94, 3) := by decide +kernel
theorem dX10_state_5 : decode cX10_state 5 = .ok (.aload_n 0, 1) := by decide +kernel
theorem dX10_state_6 : decode cX10_state 6 = .ok (.iload_n 1, 1) := by decide +kernel
theorem dX10_state_7 : decode cX10_state 7 = .ok (.iload_n 2, 1) := by decide +kernel
theorem dX10_state_8 : decode cX10_state 8 = .ok (.invokevirtual 353, 3) := by decide +kernel
theorem dX10_state_11 : decode cX10_state 11 = .ok (.ifCond .eq 33, 3) := by decide +kernel
theorem dX10_state_14 : decode cX10_state 14 = .ok (.iload_n 3, 1) := by decide +kernel
theorem dX10_state_15 : decode cX10_state 15 = .ok (.iconst 0, 1) := by decide +kernel
theorem dX10_state_16 : decode cX10_state 16 = .ok (.aload_n 0, 1) := by decide +kernel
theorem dX10_state_17 : decode cX10_state 17 = .ok (.invokevirtual 299, 3) := by decide +kernel
theorem dX10_state_20 : decode cX10_state 20 = .ok (.invokestatic 106, 3) := by decide +kernel
theorem dX10_state_23 : decode cX10_state 23 = .ok (.ifCond .eq 21, 3) := by decide +kernel
theorem dX10_state_26 : decode cX10_state 26 = .ok (.aload_n 0, 1) := by decide +kernel
theorem dX10_state_27 : decode cX10_state 27 = .ok (.iload_n 3, 1) := by decide +kernel
theorem dX10_state_28 : decode cX10_state 28 = .ok (.invokevirtual 356, 3) := by decide +kernel
theorem dX10_state_31 : decode cX10_state 31 = .ok (.iload_n 3, 1) := by decide +kernel
theorem dX10_state_32 : decode cX10_state 32 = .ok (.if_icmp .ne 12, 3) := by decide +kernel
theorem dX10_state_35 : decode cX10_state 35 = .ok (.aload_n 0, 1) := by decide +kernel
theorem dX10_state_36 : decode cX10_state 36 = .ok (.iload 4, 2) := by decide +kernel
theorem dX10_state_38 : decode cX10_state 38 = .ok (.invokevirtual 359, 3) := by decide +kernel
theorem dX10_state_41 : decode cX10_state 41 = .ok (.goto 6, 3) := by decide +kernel
theorem dX10_state_44 : decode cX10_state 44 = .ok (.sipush (-1000), 3) := by decide +kernel
theorem dX10_state_47 : decode cX10_state 47 = .ok (.ireturn, 1) := by decide +kernel
theorem dX10_mayNext_0 : decode cX10_mayNext 0 = .ok (.iload_n 1, 1) := by decide +kernel
theorem dX10_mayNext_1 : decode cX10_mayNext 1 = .ok (.iload_n 2, 1) := by decide +kernel
theorem dX10_mayNext_2 : decode cX10_mayNext 2 = .ok (.invokestatic 98, 3) := by decide +kernel
theorem dX10_mayNext_5 : decode cX10_mayNext 5 = .ok (.ifCond .ne 22, 3) := by decide +kernel
theorem dX10_mayNext_8 : decode cX10_mayNext 8 = .ok (.aload_n 0, 1) := by decide +kernel
theorem dX10_mayNext_9 : decode cX10_mayNext 9 = .ok (.bipush 29, 2) := by decide +kernel
theorem dX10_mayNext_11 : decode cX10_mayNext 11 = .ok (.iload_n 2, 1) := by decide +kernel
theorem dX10_mayNext_12 : decode cX10_mayNext 12 = .ok (.iadd, 1) := by decide +kernel
theorem dX10_mayNext_13 : decode cX10_mayNext 13 = .ok (.invokevirtual 277, 3) := by decide +kernel
theorem dX10_mayNext_16 : decode cX10_mayNext 16 = .ok (.iload_n 1, 1) := by decide +kernel
theorem dX10_mayNext_17 : decode cX10_mayNext 17 = .ok (.iconst (-1), 1) := by decide +kernel
theorem dX10_mayNext_18 : decode cX10_mayNext 18 = .ok (.ixor, 1) := by decide +kernel
theorem dX10_mayNext_19 : decode cX10_mayNext 19 = .ok (.iand, 1) := by decide +kernel
theorem dX10_mayNext_20 : decode cX10_mayNext 20 = .ok (.ifCond .ne 7, 3) := by decide +kernel
theorem dX10_mayNext_23 : decode cX10_mayNext 23 = .ok (.iconst 1, 1) := by decide +kernel
theorem dX10_mayNext_24 : decode cX10_mayNext 24 = .ok (.goto 4, 3) := by decide +kernel
theorem dX10_mayNext_27 : decode cX10_mayNext 27 = .ok (.iconst 0, 1) := by decide +kernel
theorem dX10_mayNext_28 : decode cX10_mayNext 28 = .ok (.ireturn, 1) := by decide +kernel
theorem dX10_findOrders_0 : decode cX10_findOrders 0 = .ok (.aload_n 0, 1) := by decide +kernel
theorem dX10_findOrders_1 : decode cX10_findOrders 1 = .ok (.iconst 1, 1) := by decide +kernel
theorem dX10_findOrders_2 : decode cX10_findOrders 2 = .ok (.aload_n 0, 1) := by decide +kernel
theorem dX10_findOrders_3 : decode cX10_findOrders 3 = .ok (.getfield 281, 3) := by decide +kernel
theorem dX10_findOrders_6 : decode cX10_findOrders 6 = .ok (.ishl, 1) := by decide +kernel
theorem dX10_findOrders_7 : decode cX10_findOrders 7 = .ok (.iconst 1, 1) := by decide +kernel
theorem dX10_findOrders_8 : decode cX10_findOrders 8 = .ok (.isub, 1) := by decide +kernel
theorem dX10_findOrders_9 : decode cX10_findOrders 9 = .ok (.putfield 362, 3) := by decide +kernel
theorem dX10_findOrders_12 : decode cX10_findOrders 12 = .ok (.aload_n 0, 1) := by decide +kernel
theorem dX10_findOrders_13 : decode cX10_findOrders 13 = .ok (.getfield 50, 3) := by decide +kernel
theorem dX10_findOrders_16 : decode cX10_findOrders 16 = .ok (.aload_n 0, 1) := by decide +kernel
theorem dX10_findOrders_17 : decode cX10_findOrders 17 = .ok (.getfield 362, 3) := by decide +kernel
theorem dX10_findOrders_20 : decode cX10_findOrders 20 = .ok (.lconst 1, 1) := by decide +kernel
theorem dX10_findOrders_21 : decode cX10_findOrders 21 = .ok (.lastore, 1) := by decide +kernel
theorem dX10_findOrders_22 : decode cX10_findOrders 22 = .ok (.aload_n 0, 1) := by decide +kernel
theorem dX10_findOrders_23 : decode cX10_findOrders 23 = .ok (.getfield 362, 3) := by decide +kernel
theorem dX10_findOrders_26 : decode cX10_findOrders 26 = .ok (.iconst 1, 1) := by decide +kernel
theorem dX10_findOrders_27 : decode cX10_findOrders 27 = .ok (.isub, 1) := by decide +kernel
theorem dX10_findOrders_28 : decode cX10_findOrders 28 = .ok (.istore_n 1, 1) := by decide +kernel
theorem dX10_findOrders_29 : decode cX10_findOrders 29 = .ok (.iload_n 1, 1) := by decide +kernel
theorem dX10_findOrders_30 : decode cX10_findOrders 30 = .ok (.ifCond .lt 64, 3) := by decide +kernel
theorem dX10_findOrders_33 : decode cX10_findOrders 33 = .ok (.lconst 0, 1) := by decide +kernel
theorem dX10_findOrders_34 : decode cX10_findOrders 34 = .ok (.lstore_n 2, 1) := by decide +kernel
theorem dX10_findOrders_35 : decode cX10_findOrders 35 = .ok (.iconst 0, 1) := by decide +kernel
theorem dX10_findOrders_36 : decode cX10_findOrders 36 = .ok (.istore 4, 2) := by decide +kernel
theorem dX10_findOrders_38 : decode cX10_findOrders 38 = .ok (.iload 4, 2) := by decide +kernel
theorem dX10_findOrders_40 : decode cX10_findOrders 40 = .ok (.aload_n 0, 1) := by decide +kernel
theorem dX10_findOrders_41 : decode cX10_findOrders 41 = .ok (.getfield 281, 3) := by decide +kernel
theorem dX10_findOrders_44 : decode cX10_findOrders 44 = .ok (.if_icmp .ge 37, 3) := by decide +kernel
theorem dX10_findOrders_47 : decode cX10_findOrders 47 = .ok (.lload_n 2, 1) := by decide +kernel
theorem dX10_findOrders_48 : decode cX10_findOrders 48 = .ok (.aload_n 0, 1) := by decide +kernel
theorem dX10_findOrders_49 : decode cX10_findOrders 49 = .ok (.iload_n 1, 1) := by decide +kernel
theorem dX10_findOrders_50 : decode cX10_findOrders 50 = .ok (.iload 4, 2) := by decide +kernel
theorem dX10_findOrders_52 : decode cX10_findOrders 52 = .ok (.invokevirtual 365, 3) := by decide +kernel
theorem dX10_findOrders_55 : decode cX10_findOrders 55 = .ok (.ifCond .eq 17, 3) := by decide +kernel
theorem dX10_findOrders_58 : decode cX10_findOrders 58 = .ok (.aload_n 0, 1) := by decide +kernel
theorem dX10_findOrders_59 : decode cX10_findOrders 59 = .ok (.getfield 50, 3) := by decide +kernel
theorem dX10_findOrders_62 : decode cX10_findOrders 62 = .ok (.iload_n 1, 1) := by decide +kernel
theorem dX10_findOrders_63 : decode cX10_findOrders 63 = .ok (.iconst 1, 1) := by decide +kernel
theorem dX10_findOrders_64 : decode cX10_findOrders 64 = .ok (.iload 4, 2) := by decide +kernel
theorem dX10_findOrders_66 : decode cX10_findOrders 66 = .ok (.ishl, 1) := by decide +kernel
theorem dX10_findOrders_67 : decode cX10_findOrders 67 = .ok (.ior, 1) := by decide +kernel
theorem dX10_findOrders_68 : decode cX10_findOrders 68 = .ok (.laload, 1) := by decide +kernel
theorem dX10_findOrders_69 : decode cX10_findOrders 69 = .ok (.goto 4, 3) := by decide +kernel
theorem dX10_findOrders_72 : decode cX10_findOrders 72 = .ok (.lconst 0, 1) := by decide +kernel
theorem dX10_findOrders_73 : decode cX10_findOrders 73 = .ok (.ladd, 1) := by decide +kernel
theorem dX10_findOrders_74 : decode cX10_findOrders 74 = .ok (.lstore_n 2, 1) := by decide +kernel
theorem dX10_findOrders_75 : decode cX10_findOrders 75 = .ok (.iinc 4 1, 3) := by decide +kernel
theorem dX10_findOrders_78 : decode cX10_findOrders 78 = .ok (.goto (-40), 3) := by decide +kernel
theorem dX10_findOrders_81 : decode cX10_findOrders 81 = .ok (.aload_n 0, 1) := by decide +kernel
theorem dX10_findOrders_82 : decode cX10_findOrders 82 = .ok (.getfield 50, 3) := by decide +kernel
theorem dX10_findOrders_85 : decode cX10_findOrders 85 = .ok (.iload_n 1, 1) := by decide +kernel
theorem dX10_findOrders_86 : decode cX10_findOrders 86 = .ok (.lload_n 2, 1) := by decide +kernel
theorem dX10_findOrders_87 : decode cX10_findOrders 87 = .ok (.lastore, 1) := by decide +kernel
theorem dX10_findOrders_88 : decode cX10_findOrders 88 = .ok (.iinc 1 (-1), 3) := by decide +kernel
theorem dX10_findOrders_91 : decode cX10_findOrders 91 = .ok (.goto (-62), 3) := by decide +kernel
theorem dX10_findOrders_94 : decode cX10_findOrders 94 = .ok (.aload_n 0, 1) := by decide +kernel
theorem dX10_findOrders_95 : decode cX10_findOrders 95 = .ok (.getfield 50, 3) := by decide +kernel
theorem dX10_findOrders_98 : decode cX10_findOrders 98 = .ok (.iconst 0, 1) := by decide +kernel
theorem dX10_findOrders_99 : decode cX10_findOrders 99 = .ok (.laload, 1) := by decide +kernel
theorem dX10_findOrders_100 : decode cX10_findOrders 100 = .ok (.lconst 0, 1) := by decide +kernel
theorem dX10_findOrders_101 : decode cX10_findOrders 101 = .ok (.lcmp, 1) := by decide +kernel
theorem dX10_findOrders_102 : decode cX10_findOrders 102 = .ok (.ifCond .le 7, 3) := by decide +kernel
theorem dX10_findOrders_105 : decode cX10_findOrders 105 = .ok (.iconst 1, 1) := by decide +kernel
theorem dX10_findOrders_106 : decode cX10_findOrders 106 = .ok (.goto 4, 3) := by decide +kernel
theorem dX10_findOrders_109 : decode cX10_findOrders 109 = .ok (.iconst 0, 1) := by decide +kernel
theorem dX10_findOrders_110 : decode cX10_findOrders 110 = .ok (.ireturn, 1) := by decide +kernel
theorem dX10_orders_0 : decode cX10_orders 0 = .ok (.aload_n 0, 1) := by decide +kernel
theorem dX10_orders_1 : decode cX10_orders 1 = .ok (.iconst 0, 1) := by decide +kernel
theorem dX10_orders_2 : decode cX10_orders 2 = .ok (.putfield 94, 3) := by decide +kernel
theorem dX10_orders_5 : decode cX10_orders 5 = .ok (.aload_n 0, 1) := by decide +kernel
theorem dX10_orders_6 : decode cX10_orders 6 = .ok (.iload_n 1, 1) := by decide +kernel
theorem dX10_orders_7 : decode cX10_orders 7 = .ok (.invokevirtual 287, 3) := by decide +kernel
theorem dX10_orders_10 : decode cX10_orders 10 = .ok (.ifCond .ne 7, 3) := by decide +kernel
theorem dX10_orders_13 : decode cX10_orders 13 = .ok (.ldc2_w 368, 3) := by decide +kernel
theorem dX10_orders_16 : decode cX10_orders 16 = .ok (.lreturn, 1) := by decide +kernel
theorem dX10_orders_17 : decode cX10_orders 17 = .ok (.aload_n 0, 1) := by decide +kernel
theorem dX10_orders_18 : decode cX10_orders 18 = .ok (.invokevirtual 370, 3) := by decide +kernel
theorem dX10_orders_21 : decode cX10_orders 21 = .ok (.pop, 1) := by decide +kernel
theorem dX10_orders_22 : decode cX10_orders 22 = .ok (.aload_n 0, 1) := by decide +kernel
theorem dX10_orders_23 : decode cX10_orders 23 = .ok (.getfield 50, 3) := by decide +kernel
theorem dX10_orders_26 : decode cX10_orders 26 = .ok (.iconst 0, 1) := by decide +kernel
theorem dX10_orders_27 : decode cX10_orders 27 = .ok (.laload, 1) := by decide +kernel
theorem dX10_orders_28 : decode cX10_orders 28 = .ok (.lreturn, 1) := by decide +kernel
theorem dX10_firstAt_0 : decode cX10_firstAt 0 = .ok (.iconst 0, 1) := by decide +kernel
theorem dX10_firstAt_1 : decode cX10_firstAt 1 = .ok (.istore_n 2, 1) := by decide +kernel
theorem dX10_firstAt_2 : decode cX10_firstAt 2 = .ok (.iconst (-1), 1) := by decide +kernel
theorem dX10_firstAt_3 : decode cX10_firstAt 3 = .ok (.istore_n 3, 1) := by decide +kernel
theorem dX10_firstAt_4 : decode cX10_firstAt 4 = .ok (.iconst 0, 1) := by decide +kernel
theorem dX10_firstAt_5 : decode cX10_firstAt 5 = .ok (.istore 4, 2) := by decide +kernel
theorem dX10_firstAt_7 : decode cX10_firstAt 7 = .ok (.iload 4, 2) := by decide +kernel
theorem dX10_firstAt_9 : decode cX10_firstAt 9 = .ok (.iload_n 1, 1) := by decide +kernel
theorem dX10_firstAt_10 : decode cX10_firstAt 10 = .ok (.if_icmp .gt 54, 3) := by decide +kernel
theorem dX10_firstAt_13 : decode cX10_firstAt 13 = .ok (.iconst 0, 1) := by decide +kernel
theorem dX10_firstAt_14 : decode cX10_firstAt 14 = .ok (.istore 5, 2) := by decide +kernel
theorem dX10_firstAt_16 : decode cX10_firstAt 16 = .ok (.aload_n 0, 1) := by decide +kernel
theorem dX10_firstAt_17 : decode cX10_firstAt 17 = .ok (.iload_n 2, 1) := by decide +kernel
theorem dX10_firstAt_18 : decode cX10_firstAt 18 = .ok (.iload 5, 2) := by decide +kernel
theorem dX10_firstAt_20 : decode cX10_firstAt 20 = .ok (.invokevirtual 365, 3) := by decide +kernel
theorem dX10_firstAt_23 : decode cX10_firstAt 23 = .ok (.ifCond .eq 19, 3) := by decide +kernel
theorem dX10_firstAt_26 : decode cX10_firstAt 26 = .ok (.aload_n 0, 1) := by decide +kernel
theorem dX10_firstAt_27 : decode cX10_firstAt 27 = .ok (.getfield 50, 3) := by decide +kernel
theorem dX10_firstAt_30 : decode cX10_firstAt 30 = .ok (.iload_n 2, 1) := by decide +kernel
theorem dX10_firstAt_31 : decode cX10_firstAt 31 = .ok (.iconst 1, 1) := by decide +kernel
theorem dX10_firstAt_32 : decode cX10_firstAt 32 = .ok (.iload 5, 2) := by decide +kernel
theorem dX10_firstAt_34 : decode cX10_firstAt 34 = .ok (.ishl, 1) := by decide +kernel
theorem dX10_firstAt_35 : decode cX10_firstAt 35 = .ok (.ior, 1) := by decide +kernel
theorem dX10_firstAt_36 : decode cX10_firstAt 36 = .ok (.laload, 1) := by decide +kernel
theorem dX10_firstAt_37 : decode cX10_firstAt 37 = .ok (.lconst 0, 1) := by decide +kernel
theorem dX10_firstAt_38 : decode cX10_firstAt 38 = .ok (.lcmp, 1) := by decide +kernel
theorem dX10_firstAt_39 : decode cX10_firstAt 39 = .ok (.ifCond .ne 9, 3) := by decide +kernel
theorem dX10_firstAt_42 : decode cX10_firstAt 42 = .ok (.iinc 5 1, 3) := by decide +kernel
theorem dX10_firstAt_45 : decode cX10_firstAt 45 = .ok (.goto (-29), 3) := by decide +kernel
theorem dX10_firstAt_48 : decode cX10_firstAt 48 = .ok (.iload 5, 2) := by decide +kernel
theorem dX10_firstAt_50 : decode cX10_firstAt 50 = .ok (.istore_n 3, 1) := by decide +kernel
theorem dX10_firstAt_51 : decode cX10_firstAt 51 = .ok (.iload_n 2, 1) := by decide +kernel
theorem dX10_firstAt_52 : decode cX10_firstAt 52 = .ok (.iconst 1, 1) := by decide +kernel
theorem dX10_firstAt_53 : decode cX10_firstAt 53 = .ok (.iload 5, 2) := by decide +kernel
theorem dX10_firstAt_55 : decode cX10_firstAt 55 = .ok (.ishl, 1) := by decide +kernel
theorem dX10_firstAt_56 : decode cX10_firstAt 56 = .ok (.ior, 1) := by decide +kernel
theorem dX10_firstAt_57 : decode cX10_firstAt 57 = .ok (.istore_n 2, 1) := by decide +kernel
theorem dX10_firstAt_58 : decode cX10_firstAt 58 = .ok (.iinc 4 1, 3) := by decide +kernel
theorem dX10_firstAt_61 : decode cX10_firstAt 61 = .ok (.goto (-54), 3) := by decide +kernel
theorem dX10_firstAt_64 : decode cX10_firstAt 64 = .ok (.iload_n 3, 1) := by decide +kernel
theorem dX10_firstAt_65 : decode cX10_firstAt 65 = .ok (.ireturn, 1) := by decide +kernel
theorem dX10_ahead_0 : decode cX10_ahead 0 = .ok (.aload_n 0, 1) := by decide +kernel
theorem dX10_ahead_1 : decode cX10_ahead 1 = .ok (.bipush 29, 2) := by decide +kernel
theorem dX10_ahead_3 : decode cX10_ahead 3 = .ok (.iload_n 1, 1) := by decide +kernel
theorem dX10_ahead_4 : decode cX10_ahead 4 = .ok (.iadd, 1) := by decide +kernel
theorem dX10_ahead_5 : decode cX10_ahead 5 = .ok (.invokevirtual 277, 3) := by decide +kernel
theorem dX10_ahead_8 : decode cX10_ahead 8 = .ok (.istore_n 2, 1) := by decide +kernel
theorem dX10_ahead_9 : decode cX10_ahead 9 = .ok (.iconst 0, 1) := by decide +kernel
theorem dX10_ahead_10 : decode cX10_ahead 10 = .ok (.istore_n 3, 1) := by decide +kernel
theorem dX10_ahead_11 : decode cX10_ahead 11 = .ok (.iload_n 3, 1) := by decide +kernel
theorem dX10_ahead_12 : decode cX10_ahead 12 = .ok (.bipush 9, 2) := by decide +kernel
theorem dX10_ahead_14 : decode cX10_ahead 14 = .ok (.if_icmp .ge 52, 3) := by decide +kernel
theorem dX10_ahead_17 : decode cX10_ahead 17 = .ok (.iconst 0, 1) := by decide +kernel
theorem dX10_ahead_18 : decode cX10_ahead 18 = .ok (.istore 4, 2) := by decide +kernel
theorem dX10_ahead_20 : decode cX10_ahead 20 = .ok (.iload 4, 2) := by decide +kernel
theorem dX10_ahead_22 : decode cX10_ahead 22 = .ok (.aload_n 0, 1) := by decide +kernel
theorem dX10_ahead_23 : decode cX10_ahead 23 = .ok (.getfield 281, 3) := by decide +kernel
theorem dX10_ahead_26 : decode cX10_ahead 26 = .ok (.if_icmp .ge 34, 3) := by decide +kernel
theorem dX10_ahead_29 : decode cX10_ahead 29 = .ok (.iload_n 2, 1) := by decide +kernel
theorem dX10_ahead_30 : decode cX10_ahead 30 = .ok (.iload_n 2, 1) := by decide +kernel
theorem dX10_ahead_31 : decode cX10_ahead 31 = .ok (.iload 4, 2) := by decide +kernel
theorem dX10_ahead_33 : decode cX10_ahead 33 = .ok (.invokestatic 98, 3) := by decide +kernel
theorem dX10_ahead_36 : decode cX10_ahead 36 = .ok (.ifCond .eq 15, 3) := by decide +kernel
theorem dX10_ahead_39 : decode cX10_ahead 39 = .ok (.aload_n 0, 1) := by decide +kernel
theorem dX10_ahead_40 : decode cX10_ahead 40 = .ok (.bipush 29, 2) := by decide +kernel
theorem dX10_ahead_42 : decode cX10_ahead 42 = .ok (.iload 4, 2) := by decide +kernel
theorem dX10_ahead_44 : decode cX10_ahead 44 = .ok (.iadd, 1) := by decide +kernel
theorem dX10_ahead_45 : decode cX10_ahead 45 = .ok (.invokevirtual 277, 3) := by decide +kernel
theorem dX10_ahead_48 : decode cX10_ahead 48 = .ok (.goto 4, 3) := by decide +kernel
theorem dX10_ahead_51 : decode cX10_ahead 51 = .ok (.iconst 0, 1) := by decide +kernel
theorem dX10_ahead_52 : decode cX10_ahead 52 = .ok (.ior, 1) := by decide +kernel
theorem dX10_ahead_53 : decode cX10_ahead 53 = .ok (.istore_n 2, 1) := by decide +kernel
theorem dX10_ahead_54 : decode cX10_ahead 54 = .ok (.iinc 4 1, 3) := by decide +kernel
theorem dX10_ahead_57 : decode cX10_ahead 57 = .ok (.goto (-37), 3) := by decide +kernel
theorem dX10_ahead_60 : decode cX10_ahead 60 = .ok (.iinc 3 1, 3) := by decide +kernel
theorem dX10_ahead_63 : decode cX10_ahead 63 = .ok (.goto (-52), 3) := by decide +kernel
theorem dX10_ahead_66 : decode cX10_ahead 66 = .ok (.iload_n 2, 1) := by decide +kernel
theorem dX10_ahead_67 : decode cX10_ahead 67 = .ok (.ireturn, 1) := by decide +kernel
theorem dX10_behind_0 : decode cX10_behind 0 = .ok (.iconst 0, 1) := by decide +kernel
theorem dX10_behind_1 : decode cX10_behind 1 = .ok (.istore_n 2, 1) := by decide +kernel
theorem dX10_behind_2 : decode cX10_behind 2 = .ok (.iconst 0, 1) := by decide +kernel
theorem dX10_behind_3 : decode cX10_behind 3 = .ok (.istore_n 3, 1) := by decide +kernel
theorem dX10_behind_4 : decode cX10_behind 4 = .ok (.iload_n 3, 1) := by decide +kernel
theorem dX10_behind_5 : decode cX10_behind 5 = .ok (.aload_n 0, 1) := by decide +kernel
theorem dX10_behind_6 : decode cX10_behind 6 = .ok (.getfield 281, 3) := by decide +kernel
theorem dX10_behind_9 : decode cX10_behind 9 = .ok (.if_icmp .ge 31, 3) := by decide +kernel
theorem dX10_behind_12 : decode cX10_behind 12 = .ok (.iload_n 2, 1) := by decide +kernel
theorem dX10_behind_13 : decode cX10_behind 13 = .ok (.aload_n 0, 1) := by decide +kernel
theorem dX10_behind_14 : decode cX10_behind 14 = .ok (.iload_n 3, 1) := by decide +kernel
theorem dX10_behind_15 : decode cX10_behind 15 = .ok (.invokevirtual 373, 3) := by decide +kernel
theorem dX10_behind_18 : decode cX10_behind 18 = .ok (.iload_n 1, 1) := by decide +kernel
theorem dX10_behind_19 : decode cX10_behind 19 = .ok (.invokestatic 98, 3) := by decide +kernel
theorem dX10_behind_22 : decode cX10_behind 22 = .ok (.ifCond .eq 9, 3) := by decide +kernel
theorem dX10_behind_25 : decode cX10_behind 25 = .ok (.iconst 1, 1) := by decide +kernel
theorem dX10_behind_26 : decode cX10_behind 26 = .ok (.iload_n 3, 1) := by decide +kernel
theorem dX10_behind_27 : decode cX10_behind 27 = .ok (.ishl, 1) := by decide +kernel
theorem dX10_behind_28 : decode cX10_behind 28 = .ok (.goto 4, 3) := by decide +kernel
theorem dX10_behind_31 : decode cX10_behind 31 = .ok (.iconst 0, 1) := by decide +kernel
theorem dX10_behind_32 : decode cX10_behind 32 = .ok (.ior, 1) := by decide +kernel
theorem dX10_behind_33 : decode cX10_behind 33 = .ok (.istore_n 2, 1) := by decide +kernel
theorem dX10_behind_34 : decode cX10_behind 34 = .ok (.iinc 3 1, 3) := by decide +kernel
theorem dX10_behind_37 : decode cX10_behind 37 = .ok (.goto (-33), 3) := by decide +kernel
theorem dX10_behind_40 : decode cX10_behind 40 = .ok (.iload_n 2, 1) := by decide +kernel
theorem dX10_behind_41 : decode cX10_behind 41 = .ok (.ireturn, 1) := by decide +kernel
theorem dX10_stitches_0 : decode cX10_stitches 0 = .ok (.iconst 0, 1) := by decide +kernel
theorem dX10_stitches_1 : decode cX10_stitches 1 = .ok (.istore_n 2, 1) := by decide +kernel
theorem dX10_stitches_2 : decode cX10_stitches 2 = .ok (.iconst 0, 1) := by decide +kernel
theorem dX10_stitches_3 : decode cX10_stitches 3 = .ok (.istore_n 3, 1) := by decide +kernel
theorem dX10_stitches_4 : decode cX10_stitches 4 = .ok (.iload_n 3, 1) := by decide +kernel
theorem dX10_stitches_5 : decode cX10_stitches 5 = .ok (.aload_n 0, 1) := by decide +kernel
theorem dX10_stitches_6 : decode cX10_stitches 6 = .ok (.getfield 281, 3) := by decide +kernel
theorem dX10_stitches_9 : decode cX10_stitches 9 = .ok (.if_icmp .ge 31, 3) := by decide +kernel
theorem dX10_stitches_12 : decode cX10_stitches 12 = .ok (.iload_n 2, 1) := by decide +kernel
theorem dX10_stitches_13 : decode cX10_stitches 13 = .ok (.iload_n 1, 1) := by decide +kernel
theorem dX10_stitches_14 : decode cX10_stitches 14 = .ok (.iload_n 3, 1) := by decide +kernel
theorem dX10_stitches_15 : decode cX10_stitches 15 = .ok (.invokestatic 98, 3) := by decide +kernel
theorem dX10_stitches_18 : decode cX10_stitches 18 = .ok (.ifCond .eq 13, 3) := by decide +kernel
theorem dX10_stitches_21 : decode cX10_stitches 21 = .ok (.aload_n 0, 1) := by decide +kernel
theorem dX10_stitches_22 : decode cX10_stitches 22 = .ok (.iconst 2, 1) := by decide +kernel
theorem dX10_stitches_23 : decode cX10_stitches 23 = .ok (.iload_n 3, 1) := by decide +kernel
theorem dX10_stitches_24 : decode cX10_stitches 24 = .ok (.iadd, 1) := by decide +kernel
theorem dX10_stitches_25 : decode cX10_stitches 25 = .ok (.invokevirtual 277, 3) := by decide +kernel
theorem dX10_stitches_28 : decode cX10_stitches 28 = .ok (.goto 4, 3) := by decide +kernel
theorem dX10_stitches_31 : decode cX10_stitches 31 = .ok (.iconst 0, 1) := by decide +kernel
theorem dX10_stitches_32 : decode cX10_stitches 32 = .ok (.iadd, 1) := by decide +kernel
theorem dX10_stitches_33 : decode cX10_stitches 33 = .ok (.istore_n 2, 1) := by decide +kernel
theorem dX10_stitches_34 : decode cX10_stitches 34 = .ok (.iinc 3 1, 3) := by decide +kernel
theorem dX10_stitches_37 : decode cX10_stitches 37 = .ok (.goto (-33), 3) := by decide +kernel
theorem dX10_stitches_40 : decode cX10_stitches 40 = .ok (.iload_n 2, 1) := by decide +kernel
theorem dX10_stitches_41 : decode cX10_stitches 41 = .ok (.ireturn, 1) := by decide +kernel
theorem dX10_growthBehind_0 : decode cX10_growthBehind 0 = .ok (.iconst 0, 1) := by decide +kernel
theorem dX10_growthBehind_1 : decode cX10_growthBehind 1 = .ok (.istore_n 2, 1) := by decide +kernel
theorem dX10_growthBehind_2 : decode cX10_growthBehind 2 = .ok (.iload_n 1, 1) := by decide +kernel
theorem dX10_growthBehind_3 : decode cX10_growthBehind 3 = .ok (.iconst 1, 1) := by decide +kernel
theorem dX10_growthBehind_4 : decode cX10_growthBehind 4 = .ok (.iadd, 1) := by decide +kernel
theorem dX10_growthBehind_5 : decode cX10_growthBehind 5 = .ok (.istore_n 3, 1) := by decide +kernel
theorem dX10_growthBehind_6 : decode cX10_growthBehind 6 = .ok (.iload_n 3, 1) := by decide +kernel
theorem dX10_growthBehind_7 : decode cX10_growthBehind 7 = .ok (.bipush 99, 2) := by decide +kernel
theorem dX10_growthBehind_9 : decode cX10_growthBehind 9 = .ok (.if_icmp .gt 20, 3) := by decide +kernel
theorem dX10_growthBehind_12 : decode cX10_growthBehind 12 = .ok (.iload_n 2, 1) := by decide +kernel
theorem dX10_growthBehind_13 : decode cX10_growthBehind 13 = .ok (.aload_n 0, 1) := by decide +kernel
theorem dX10_growthBehind_14 : decode cX10_growthBehind 14 = .ok (.bipush 38, 2) := by decide +kernel
theorem dX10_growthBehind_16 : decode cX10_growthBehind 16 = .ok (.iload_n 3, 1) := by decide +kernel
theorem dX10_growthBehind_17 : decode cX10_growthBehind 17 = .ok (.iadd, 1) := by decide +kernel
theorem dX10_growthBehind_18 : decode cX10_growthBehind 18 = .ok (.invokevirtual 277, 3) := by decide +kernel
theorem dX10_growthBehind_21 : decode cX10_growthBehind 21 = .ok (.iadd, 1) := by decide +kernel
theorem dX10_growthBehind_22 : decode cX10_growthBehind 22 = .ok (.istore_n 2, 1) := by decide +kernel
theorem dX10_growthBehind_23 : decode cX10_growthBehind 23 = .ok (.iinc 3 1, 3) := by decide +kernel
theorem dX10_growthBehind_26 : decode cX10_growthBehind 26 = .ok (.goto (-20), 3) := by decide +kernel
theorem dX10_growthBehind_29 : decode cX10_growthBehind 29 = .ok (.iload_n 2, 1) := by decide +kernel
theorem dX10_growthBehind_30 : decode cX10_growthBehind 30 = .ok (.ireturn, 1) := by decide +kernel
theorem dX10_wouldBurst_0 : decode cX10_wouldBurst 0 = .ok (.aload_n 0, 1) := by decide +kernel
theorem dX10_wouldBurst_1 : decode cX10_wouldBurst 1 = .ok (.aload_n 0, 1) := by decide +kernel
theorem dX10_wouldBurst_2 : decode cX10_wouldBurst 2 = .ok (.iload_n 1, 1) := by decide +kernel
theorem dX10_wouldBurst_3 : decode cX10_wouldBurst 3 = .ok (.invokevirtual 376, 3) := by decide +kernel
theorem dX10_wouldBurst_6 : decode cX10_wouldBurst 6 = .ok (.iconst 1, 1) := by decide +kernel
theorem dX10_wouldBurst_7 : decode cX10_wouldBurst 7 = .ok (.isub, 1) := by decide +kernel
theorem dX10_wouldBurst_8 : decode cX10_wouldBurst 8 = .ok (.aload_n 0, 1) := by decide +kernel
theorem dX10_wouldBurst_9 : decode cX10_wouldBurst 9 = .ok (.getfield 284, 3) := by decide +kernel
theorem dX10_wouldBurst_12 : decode cX10_wouldBurst 12 = .ok (.idiv, 1) := by decide +kernel
theorem dX10_wouldBurst_13 : decode cX10_wouldBurst 13 = .ok (.invokevirtual 379, 3) := by decide +kernel
theorem dX10_wouldBurst_16 : decode cX10_wouldBurst 16 = .ok (.aload_n 0, 1) := by decide +kernel
theorem dX10_wouldBurst_17 : decode cX10_wouldBurst 17 = .ok (.bipush 20, 2) := by decide +kernel
theorem dX10_wouldBurst_19 : decode cX10_wouldBurst 19 = .ok (.iload_n 2, 1) := by decide +kernel
theorem dX10_wouldBurst_20 : decode cX10_wouldBurst 20 = .ok (.iadd, 1) := by decide +kernel
theorem dX10_wouldBurst_21 : decode cX10_wouldBurst 21 = .ok (.invokevirtual 277, 3) := by decide +kernel
theorem dX10_wouldBurst_24 : decode cX10_wouldBurst 24 = .ok (.if_icmp .le 7, 3) := by decide +kernel
theorem dX10_wouldBurst_27 : decode cX10_wouldBurst 27 = .ok (.iconst 1, 1) := by decide +kernel
theorem dX10_wouldBurst_28 : decode cX10_wouldBurst 28 = .ok (.goto 4, 3) := by decide +kernel
theorem dX10_wouldBurst_31 : decode cX10_wouldBurst 31 = .ok (.iconst 0, 1) := by decide +kernel
theorem dX10_wouldBurst_32 : decode cX10_wouldBurst 32 = .ok (.ireturn, 1) := by decide +kernel
theorem dX10_findLeast_0 : decode cX10_findLeast 0 = .ok (.aload_n 0, 1) := by decide +kernel
theorem dX10_findLeast_1 : decode cX10_findLeast 1 = .ok (.getfield 362, 3) := by decide +kernel
theorem dX10_findLeast_4 : decode cX10_findLeast 4 = .ok (.istore_n 1, 1) := by decide +kernel
theorem dX10_findLeast_5 : decode cX10_findLeast 5 = .ok (.iload_n 1, 1) := by decide +kernel
theorem dX10_findLeast_6 : decode cX10_findLeast 6 = .ok (.ifCond .lt 98, 3) := by decide +kernel
theorem dX10_findLeast_9 : decode cX10_findLeast 9 = .ok (.aload_n 0, 1) := by decide +kernel
theorem dX10_findLeast_10 : decode cX10_findLeast 10 = .ok (.getfield 54, 3) := by decide +kernel
theorem dX10_findLeast_13 : decode cX10_findLeast 13 = .ok (.iload_n 1, 1) := by decide +kernel
theorem dX10_findLeast_14 : decode cX10_findLeast 14 = .ok (.iload_n 1, 1) := by decide +kernel
theorem dX10_findLeast_15 : decode cX10_findLeast 15 = .ok (.aload_n 0, 1) := by decide +kernel
theorem dX10_findLeast_16 : decode cX10_findLeast 16 = .ok (.getfield 362, 3) := by decide +kernel
theorem dX10_findLeast_19 : decode cX10_findLeast 19 = .ok (.if_icmp .ne 7, 3) := by decide +kernel
theorem dX10_findLeast_22 : decode cX10_findLeast 22 = .ok (.iconst 0, 1) := by decide +kernel
theorem dX10_findLeast_23 : decode cX10_findLeast 23 = .ok (.goto 6, 3) := by decide +kernel
theorem dX10_findLeast_26 : decode cX10_findLeast 26 = .ok (.ldc_w 382, 3) := by decide +kernel
theorem dX10_findLeast_29 : decode cX10_findLeast 29 = .ok (.iastore, 1) := by decide +kernel
theorem dX10_findLeast_30 : decode cX10_findLeast 30 = .ok (.iconst 0, 1) := by decide +kernel
theorem dX10_findLeast_31 : decode cX10_findLeast 31 = .ok (.istore_n 2, 1) := by decide +kernel
theorem dX10_findLeast_32 : decode cX10_findLeast 32 = .ok (.iload_n 2, 1) := by decide +kernel
theorem dX10_findLeast_33 : decode cX10_findLeast 33 = .ok (.aload_n 0, 1) := by decide +kernel
theorem dX10_findLeast_34 : decode cX10_findLeast 34 = .ok (.getfield 281, 3) := by decide +kernel
theorem dX10_findLeast_37 : decode cX10_findLeast 37 = .ok (.if_icmp .ge 61, 3) := by decide +kernel
theorem dX10_findLeast_40 : decode cX10_findLeast 40 = .ok (.iload_n 1, 1) := by decide +kernel
theorem dX10_findLeast_41 : decode cX10_findLeast 41 = .ok (.iconst 1, 1) := by decide +kernel
theorem dX10_findLeast_42 : decode cX10_findLeast 42 = .ok (.iload_n 2, 1) := by decide +kernel
theorem dX10_findLeast_43 : decode cX10_findLeast 43 = .ok (.ishl, 1) := by decide +kernel
theorem dX10_findLeast_44 : decode cX10_findLeast 44 = .ok (.ior, 1) := by decide +kernel
theorem dX10_findLeast_45 : decode cX10_findLeast 45 = .ok (.istore_n 3, 1) := by decide +kernel
theorem dX10_findLeast_46 : decode cX10_findLeast 46 = .ok (.aload_n 0, 1) := by decide +kernel
theorem dX10_findLeast_47 : decode cX10_findLeast 47 = .ok (.getfield 54, 3) := by decide +kernel
theorem dX10_findLeast_50 : decode cX10_findLeast 50 = .ok (.iload_n 1, 1) := by decide +kernel
theorem dX10_findLeast_51 : decode cX10_findLeast 51 = .ok (.aload_n 0, 1) := by decide +kernel
theorem dX10_findLeast_52 : decode cX10_findLeast 52 = .ok (.iload_n 1, 1) := by decide +kernel
theorem dX10_findLeast_53 : decode cX10_findLeast 53 = .ok (.iload_n 2, 1) := by decide +kernel
theorem dX10_findLeast_54 : decode cX10_findLeast 54 = .ok (.invokevirtual 365, 3) := by decide +kernel
theorem dX10_findLeast_57 : decode cX10_findLeast 57 = .ok (.ifCond .eq 28, 3) := by decide +kernel
theorem dX10_findLeast_60 : decode cX10_findLeast 60 = .ok (.aload_n 0, 1) := by decide +kernel
theorem dX10_findLeast_61 : decode cX10_findLeast 61 = .ok (.getfield 54, 3) := by decide +kernel
theorem dX10_findLeast_64 : decode cX10_findLeast 64 = .ok (.iload_n 1, 1) := by decide +kernel
theorem dX10_findLeast_65 : decode cX10_findLeast 65 = .ok (.iaload, 1) := by decide +kernel
theorem dX10_findLeast_66 : decode cX10_findLeast 66 = .ok (.aload_n 0, 1) := by decide +kernel
theorem dX10_findLeast_67 : decode cX10_findLeast 67 = .ok (.getfield 54, 3) := by decide +kernel
theorem dX10_findLeast_70 : decode cX10_findLeast 70 = .ok (.iload_n 3, 1) := by decide +kernel
theorem dX10_findLeast_71 : decode cX10_findLeast 71 = .ok (.iaload, 1) := by decide +kernel
theorem dX10_findLeast_72 : decode cX10_findLeast 72 = .ok (.aload_n 0, 1) := by decide +kernel
theorem dX10_findLeast_73 : decode cX10_findLeast 73 = .ok (.iload_n 3, 1) := by decide +kernel
theorem dX10_findLeast_74 : decode cX10_findLeast 74 = .ok (.iload_n 2, 1) := by decide +kernel
theorem dX10_findLeast_75 : decode cX10_findLeast 75 = .ok (.invokevirtual 383, 3) := by decide +kernel
theorem dX10_findLeast_78 : decode cX10_findLeast 78 = .ok (.iadd, 1) := by decide +kernel
theorem dX10_findLeast_79 : decode cX10_findLeast 79 = .ok (.invokestatic 326, 3) := by decide +kernel
theorem dX10_findLeast_82 : decode cX10_findLeast 82 = .ok (.goto 9, 3) := by decide +kernel
theorem dX10_findLeast_85 : decode cX10_findLeast 85 = .ok (.aload_n 0, 1) := by decide +kernel
theorem dX10_findLeast_86 : decode cX10_findLeast 86 = .ok (.getfield 54, 3) := by decide +kernel
theorem dX10_findLeast_89 : decode cX10_findLeast 89 = .ok (.iload_n 1, 1) := by decide +kernel
theorem dX10_findLeast_90 : decode cX10_findLeast 90 = .ok (.iaload, 1) := by decide +kernel
theorem dX10_findLeast_91 : decode cX10_findLeast 91 = .ok (.iastore, 1) := by decide +kernel
theorem dX10_findLeast_92 : decode cX10_findLeast 92 = .ok (.iinc 2 1, 3) := by decide +kernel
theorem dX10_findLeast_95 : decode cX10_findLeast 95 = .ok (.goto (-63), 3) := by decide +kernel
theorem dX10_findLeast_98 : decode cX10_findLeast 98 = .ok (.iinc 1 (-1), 3) := by decide +kernel
theorem dX10_findLeast_101 : decode cX10_findLeast 101 = .ok (.goto (-96), 3) := by decide +kernel
theorem dX10_findLeast_104 : decode cX10_findLeast 104 = .ok (.return_, 1) := by decide +kernel
theorem dX10_leastAt_0 : decode cX10_leastAt 0 = .ok (.iconst 0, 1) := by decide +kernel
theorem dX10_leastAt_1 : decode cX10_leastAt 1 = .ok (.istore_n 2, 1) := by decide +kernel
theorem dX10_leastAt_2 : decode cX10_leastAt 2 = .ok (.iconst (-1), 1) := by decide +kernel
theorem dX10_leastAt_3 : decode cX10_leastAt 3 = .ok (.istore_n 3, 1) := by decide +kernel
theorem dX10_leastAt_4 : decode cX10_leastAt 4 = .ok (.iconst 0, 1) := by decide +kernel
theorem dX10_leastAt_5 : decode cX10_leastAt 5 = .ok (.istore 4, 2) := by decide +kernel
theorem dX10_leastAt_7 : decode cX10_leastAt 7 = .ok (.iload 4, 2) := by decide +kernel
theorem dX10_leastAt_9 : decode cX10_leastAt 9 = .ok (.iload_n 1, 1) := by decide +kernel
theorem dX10_leastAt_10 : decode cX10_leastAt 10 = .ok (.if_icmp .gt 71, 3) := by decide +kernel
theorem dX10_leastAt_13 : decode cX10_leastAt 13 = .ok (.iconst 0, 1) := by decide +kernel
theorem dX10_leastAt_14 : decode cX10_leastAt 14 = .ok (.istore 5, 2) := by decide +kernel
theorem dX10_leastAt_16 : decode cX10_leastAt 16 = .ok (.aload_n 0, 1) := by decide +kernel
theorem dX10_leastAt_17 : decode cX10_leastAt 17 = .ok (.iload_n 2, 1) := by decide +kernel
theorem dX10_leastAt_18 : decode cX10_leastAt 18 = .ok (.iload 5, 2) := by decide +kernel
theorem dX10_leastAt_20 : decode cX10_leastAt 20 = .ok (.invokevirtual 365, 3) := by decide +kernel
theorem dX10_leastAt_23 : decode cX10_leastAt 23 = .ok (.ifCond .eq 36, 3) := by decide +kernel
theorem dX10_leastAt_26 : decode cX10_leastAt 26 = .ok (.aload_n 0, 1) := by decide +kernel
theorem dX10_leastAt_27 : decode cX10_leastAt 27 = .ok (.getfield 54, 3) := by decide +kernel
theorem dX10_leastAt_30 : decode cX10_leastAt 30 = .ok (.iload_n 2, 1) := by decide +kernel
theorem dX10_leastAt_31 : decode cX10_leastAt 31 = .ok (.iconst 1, 1) := by decide +kernel
theorem dX10_leastAt_32 : decode cX10_leastAt 32 = .ok (.iload 5, 2) := by decide +kernel
theorem dX10_leastAt_34 : decode cX10_leastAt 34 = .ok (.ishl, 1) := by decide +kernel
theorem dX10_leastAt_35 : decode cX10_leastAt 35 = .ok (.ior, 1) := by decide +kernel
theorem dX10_leastAt_36 : decode cX10_leastAt 36 = .ok (.iaload, 1) := by decide +kernel
theorem dX10_leastAt_37 : decode cX10_leastAt 37 = .ok (.aload_n 0, 1) := by decide +kernel
theorem dX10_leastAt_38 : decode cX10_leastAt 38 = .ok (.iload_n 2, 1) := by decide +kernel
theorem dX10_leastAt_39 : decode cX10_leastAt 39 = .ok (.iconst 1, 1) := by decide +kernel
theorem dX10_leastAt_40 : decode cX10_leastAt 40 = .ok (.iload 5, 2) := by decide +kernel
theorem dX10_leastAt_42 : decode cX10_leastAt 42 = .ok (.ishl, 1) := by decide +kernel
theorem dX10_leastAt_43 : decode cX10_leastAt 43 = .ok (.ior, 1) := by decide +kernel
theorem dX10_leastAt_44 : decode cX10_leastAt 44 = .ok (.iload 5, 2) := by decide +kernel
theorem dX10_leastAt_46 : decode cX10_leastAt 46 = .ok (.invokevirtual 383, 3) := by decide +kernel
theorem dX10_leastAt_49 : decode cX10_leastAt 49 = .ok (.iadd, 1) := by decide +kernel
theorem dX10_leastAt_50 : decode cX10_leastAt 50 = .ok (.aload_n 0, 1) := by decide +kernel
theorem dX10_leastAt_51 : decode cX10_leastAt 51 = .ok (.getfield 54, 3) := by decide +kernel
theorem dX10_leastAt_54 : decode cX10_leastAt 54 = .ok (.iload_n 2, 1) := by decide +kernel
theorem dX10_leastAt_55 : decode cX10_leastAt 55 = .ok (.iaload, 1) := by decide +kernel
theorem dX10_leastAt_56 : decode cX10_leastAt 56 = .ok (.if_icmp .eq 9, 3) := by decide +kernel
theorem dX10_leastAt_59 : decode cX10_leastAt 59 = .ok (.iinc 5 1, 3) := by decide +kernel
theorem dX10_leastAt_62 : decode cX10_leastAt 62 = .ok (.goto (-46), 3) := by decide +kernel
theorem dX10_leastAt_65 : decode cX10_leastAt 65 = .ok (.iload 5, 2) := by decide +kernel
theorem dX10_leastAt_67 : decode cX10_leastAt 67 = .ok (.istore_n 3, 1) := by decide +kernel
theorem dX10_leastAt_68 : decode cX10_leastAt 68 = .ok (.iload_n 2, 1) := by decide +kernel
theorem dX10_leastAt_69 : decode cX10_leastAt 69 = .ok (.iconst 1, 1) := by decide +kernel
theorem dX10_leastAt_70 : decode cX10_leastAt 70 = .ok (.iload 5, 2) := by decide +kernel
theorem dX10_leastAt_72 : decode cX10_leastAt 72 = .ok (.ishl, 1) := by decide +kernel
theorem dX10_leastAt_73 : decode cX10_leastAt 73 = .ok (.ior, 1) := by decide +kernel
theorem dX10_leastAt_74 : decode cX10_leastAt 74 = .ok (.istore_n 2, 1) := by decide +kernel
theorem dX10_leastAt_75 : decode cX10_leastAt 75 = .ok (.iinc 4 1, 3) := by decide +kernel
theorem dX10_leastAt_78 : decode cX10_leastAt 78 = .ok (.goto (-71), 3) := by decide +kernel
theorem dX10_leastAt_81 : decode cX10_leastAt 81 = .ok (.iload_n 3, 1) := by decide +kernel
theorem dX10_leastAt_82 : decode cX10_leastAt 82 = .ok (.ireturn, 1) := by decide +kernel
theorem dX10_change_0 : decode cX10_change 0 = .ok (.aload_n 0, 1) := by decide +kernel
theorem dX10_change_1 : decode cX10_change 1 = .ok (.bipush 11, 2) := by decide +kernel
theorem dX10_change_3 : decode cX10_change 3 = .ok (.iload_n 1, 1) := by decide +kernel
theorem dX10_change_4 : decode cX10_change 4 = .ok (.iadd, 1) := by decide +kernel
theorem dX10_change_5 : decode cX10_change 5 = .ok (.invokevirtual 277, 3) := by decide +kernel
theorem dX10_change_8 : decode cX10_change 8 = .ok (.aload_n 0, 1) := by decide +kernel
theorem dX10_change_9 : decode cX10_change 9 = .ok (.bipush 11, 2) := by decide +kernel
theorem dX10_change_11 : decode cX10_change 11 = .ok (.iload_n 2, 1) := by decide +kernel
theorem dX10_change_12 : decode cX10_change 12 = .ok (.iadd, 1) := by decide +kernel
theorem dX10_change_13 : decode cX10_change 13 = .ok (.invokevirtual 277, 3) := by decide +kernel
theorem dX10_change_16 : decode cX10_change 16 = .ok (.if_icmp .ne 7, 3) := by decide +kernel
theorem dX10_change_19 : decode cX10_change 19 = .ok (.iconst 0, 1) := by decide +kernel
theorem dX10_change_20 : decode cX10_change 20 = .ok (.goto 4, 3) := by decide +kernel
theorem dX10_change_23 : decode cX10_change 23 = .ok (.iconst 1, 1) := by decide +kernel
theorem dX10_change_24 : decode cX10_change 24 = .ok (.ireturn, 1) := by decide +kernel
theorem dX10_findChanges_0 : decode cX10_findChanges 0 = .ok (.aload_n 0, 1) := by decide +kernel
theorem dX10_findChanges_1 : decode cX10_findChanges 1 = .ok (.getfield 362, 3) := by decide +kernel
theorem dX10_findChanges_4 : decode cX10_findChanges 4 = .ok (.istore_n 1, 1) := by decide +kernel
theorem dX10_findChanges_5 : decode cX10_findChanges 5 = .ok (.iload_n 1, 1) := by decide +kernel
theorem dX10_findChanges_6 : decode cX10_findChanges 6 = .ok (.ifCond .le 115, 3) := by decide +kernel
theorem dX10_findChanges_9 : decode cX10_findChanges 9 = .ok (.iconst 0, 1) := by decide +kernel
theorem dX10_findChanges_10 : decode cX10_findChanges 10 = .ok (.istore_n 2, 1) := by decide +kernel
theorem dX10_findChanges_11 : decode cX10_findChanges 11 = .ok (.iload_n 2, 1) := by decide +kernel
theorem dX10_findChanges_12 : decode cX10_findChanges 12 = .ok (.aload_n 0, 1) := by decide +kernel
theorem dX10_findChanges_13 : decode cX10_findChanges 13 = .ok (.getfield 281, 3) := by decide +kernel
theorem dX10_findChanges_16 : decode cX10_findChanges 16 = .ok (.if_icmp .ge 99, 3) := by decide +kernel
theorem dX10_findChanges_19 : decode cX10_findChanges 19 = .ok (.iload_n 1, 1) := by decide +kernel
theorem dX10_findChanges_20 : decode cX10_findChanges 20 = .ok (.aload_n 0, 1) := by decide +kernel
theorem dX10_findChanges_21 : decode cX10_findChanges 21 = .ok (.getfield 362, 3) := by decide +kernel
theorem dX10_findChanges_24 : decode cX10_findChanges 24 = .ok (.if_icmp .ne 7, 3) := by decide +kernel
theorem dX10_findChanges_27 : decode cX10_findChanges 27 = .ok (.iconst 0, 1) := by decide +kernel
theorem dX10_findChanges_28 : decode cX10_findChanges 28 = .ok (.goto 6, 3) := by decide +kernel
theorem dX10_findChanges_31 : decode cX10_findChanges 31 = .ok (.ldc_w 382, 3) := by decide +kernel
theorem dX10_findChanges_34 : decode cX10_findChanges 34 = .ok (.istore_n 3, 1) := by decide +kernel
theorem dX10_findChanges_35 : decode cX10_findChanges 35 = .ok (.iconst 0, 1) := by decide +kernel
theorem dX10_findChanges_36 : decode cX10_findChanges 36 = .ok (.istore 4, 2) := by decide +kernel
theorem dX10_findChanges_38 : decode cX10_findChanges 38 = .ok (.iload 4, 2) := by decide +kernel
theorem dX10_findChanges_40 : decode cX10_findChanges 40 = .ok (.aload_n 0, 1) := by decide +kernel
theorem dX10_findChanges_41 : decode cX10_findChanges 41 = .ok (.getfield 281, 3) := by decide +kernel
theorem dX10_findChanges_44 : decode cX10_findChanges 44 = .ok (.if_icmp .ge 53, 3) := by decide +kernel
theorem dX10_findChanges_47 : decode cX10_findChanges 47 = .ok (.aload_n 0, 1) := by decide +kernel
theorem dX10_findChanges_48 : decode cX10_findChanges 48 = .ok (.iload_n 1, 1) := by decide +kernel
theorem dX10_findChanges_49 : decode cX10_findChanges 49 = .ok (.iload 4, 2) := by decide +kernel
theorem dX10_findChanges_51 : decode cX10_findChanges 51 = .ok (.invokevirtual 365, 3) := by decide +kernel
theorem dX10_findChanges_54 : decode cX10_findChanges 54 = .ok (.ifCond .eq 35, 3) := by decide +kernel
theorem dX10_findChanges_57 : decode cX10_findChanges 57 = .ok (.iload_n 3, 1) := by decide +kernel
theorem dX10_findChanges_58 : decode cX10_findChanges 58 = .ok (.aload_n 0, 1) := by decide +kernel
theorem dX10_findChanges_59 : decode cX10_findChanges 59 = .ok (.getfield 57, 3) := by decide +kernel
theorem dX10_findChanges_62 : decode cX10_findChanges 62 = .ok (.bipush 9, 2) := by decide +kernel
theorem dX10_findChanges_64 : decode cX10_findChanges 64 = .ok (.iload_n 1, 1) := by decide +kernel
theorem dX10_findChanges_65 : decode cX10_findChanges 65 = .ok (.iconst 1, 1) := by decide +kernel
theorem dX10_findChanges_66 : decode cX10_findChanges 66 = .ok (.iload 4, 2) := by decide +kernel
theorem dX10_findChanges_68 : decode cX10_findChanges 68 = .ok (.ishl, 1) := by decide +kernel
theorem dX10_findChanges_69 : decode cX10_findChanges 69 = .ok (.ior, 1) := by decide +kernel
theorem dX10_findChanges_70 : decode cX10_findChanges 70 = .ok (.imul, 1) := by decide +kernel
theorem dX10_findChanges_71 : decode cX10_findChanges 71 = .ok (.iload 4, 2) := by decide +kernel
theorem dX10_findChanges_73 : decode cX10_findChanges 73 = .ok (.iadd, 1) := by decide +kernel
theorem dX10_findChanges_74 : decode cX10_findChanges 74 = .ok (.iaload, 1) := by decide +kernel
theorem dX10_findChanges_75 : decode cX10_findChanges 75 = .ok (.aload_n 0, 1) := by decide +kernel
theorem dX10_findChanges_76 : decode cX10_findChanges 76 = .ok (.iload_n 2, 1) := by decide +kernel
theorem dX10_findChanges_77 : decode cX10_findChanges 77 = .ok (.iload 4, 2) := by decide +kernel
theorem dX10_findChanges_79 : decode cX10_findChanges 79 = .ok (.invokevirtual 386, 3) := by decide +kernel
theorem dX10_findChanges_82 : decode cX10_findChanges 82 = .ok (.iadd, 1) := by decide +kernel
theorem dX10_findChanges_83 : decode cX10_findChanges 83 = .ok (.invokestatic 326, 3) := by decide +kernel
theorem dX10_findChanges_86 : decode cX10_findChanges 86 = .ok (.goto 4, 3) := by decide +kernel
theorem dX10_findChanges_89 : decode cX10_findChanges 89 = .ok (.iload_n 3, 1) := by decide +kernel
theorem dX10_findChanges_90 : decode cX10_findChanges 90 = .ok (.istore_n 3, 1) := by decide +kernel
theorem dX10_findChanges_91 : decode cX10_findChanges 91 = .ok (.iinc 4 1, 3) := by decide +kernel
theorem dX10_findChanges_94 : decode cX10_findChanges 94 = .ok (.goto (-56), 3) := by decide +kernel
theorem dX10_findChanges_97 : decode cX10_findChanges 97 = .ok (.aload_n 0, 1) := by decide +kernel
theorem dX10_findChanges_98 : decode cX10_findChanges 98 = .ok (.getfield 57, 3) := by decide +kernel
theorem dX10_findChanges_101 : decode cX10_findChanges 101 = .ok (.bipush 9, 2) := by decide +kernel
theorem dX10_findChanges_103 : decode cX10_findChanges 103 = .ok (.iload_n 1, 1) := by decide +kernel
theorem dX10_findChanges_104 : decode cX10_findChanges 104 = .ok (.imul, 1) := by decide +kernel
theorem dX10_findChanges_105 : decode cX10_findChanges 105 = .ok (.iload_n 2, 1) := by decide +kernel
theorem dX10_findChanges_106 : decode cX10_findChanges 106 = .ok (.iadd, 1) := by decide +kernel
theorem dX10_findChanges_107 : decode cX10_findChanges 107 = .ok (.iload_n 3, 1) := by decide +kernel
theorem dX10_findChanges_108 : decode cX10_findChanges 108 = .ok (.iastore, 1) := by decide +kernel
theorem dX10_findChanges_109 : decode cX10_findChanges 109 = .ok (.iinc 2 1, 3) := by decide +kernel
theorem dX10_findChanges_112 : decode cX10_findChanges 112 = .ok (.goto (-101), 3) := by decide +kernel
theorem dX10_findChanges_115 : decode cX10_findChanges 115 = .ok (.iinc 1 (-1), 3) := by decide +kernel
theorem dX10_findChanges_118 : decode cX10_findChanges 118 = .ok (.goto (-113), 3) := by decide +kernel
theorem dX10_findChanges_121 : decode cX10_findChanges 121 = .ok (.return_, 1) := by decide +kernel
theorem dX10_threads_0 : decode cX10_threads 0 = .ok (.aload_n 0, 1) := by decide +kernel
theorem dX10_threads_1 : decode cX10_threads 1 = .ok (.getfield 281, 3) := by decide +kernel
theorem dX10_threads_4 : decode cX10_threads 4 = .ok (.ifCond .ne 7, 3) := by decide +kernel
theorem dX10_threads_7 : decode cX10_threads 7 = .ok (.iconst 0, 1) := by decide +kernel
theorem dX10_threads_8 : decode cX10_threads 8 = .ok (.goto 6, 3) := by decide +kernel
theorem dX10_threads_11 : decode cX10_threads 11 = .ok (.ldc_w 382, 3) := by decide +kernel
theorem dX10_threads_14 : decode cX10_threads 14 = .ok (.istore_n 1, 1) := by decide +kernel
theorem dX10_threads_15 : decode cX10_threads 15 = .ok (.iconst 0, 1) := by decide +kernel
theorem dX10_threads_16 : decode cX10_threads 16 = .ok (.istore_n 2, 1) := by decide +kernel
theorem dX10_threads_17 : decode cX10_threads 17 = .ok (.iload_n 2, 1) := by decide +kernel
theorem dX10_threads_18 : decode cX10_threads 18 = .ok (.aload_n 0, 1) := by decide +kernel
theorem dX10_threads_19 : decode cX10_threads 19 = .ok (.getfield 281, 3) := by decide +kernel
theorem dX10_threads_22 : decode cX10_threads 22 = .ok (.if_icmp .ge 40, 3) := by decide +kernel
theorem dX10_threads_25 : decode cX10_threads 25 = .ok (.aload_n 0, 1) := by decide +kernel
theorem dX10_threads_26 : decode cX10_threads 26 = .ok (.iconst 0, 1) := by decide +kernel
theorem dX10_threads_27 : decode cX10_threads 27 = .ok (.iload_n 2, 1) := by decide +kernel
theorem dX10_threads_28 : decode cX10_threads 28 = .ok (.invokevirtual 365, 3) := by decide +kernel
theorem dX10_threads_31 : decode cX10_threads 31 = .ok (.ifCond .eq 23, 3) := by decide +kernel
theorem dX10_threads_34 : decode cX10_threads 34 = .ok (.iload_n 1, 1) := by decide +kernel
theorem dX10_threads_35 : decode cX10_threads 35 = .ok (.aload_n 0, 1) := by decide +kernel
theorem dX10_threads_36 : decode cX10_threads 36 = .ok (.getfield 57, 3) := by decide +kernel
theorem dX10_threads_39 : decode cX10_threads 39 = .ok (.bipush 9, 2) := by decide +kernel
theorem dX10_threads_41 : decode cX10_threads 41 = .ok (.iconst 1, 1) := by decide +kernel
theorem dX10_threads_42 : decode cX10_threads 42 = .ok (.iload_n 2, 1) := by decide +kernel
theorem dX10_threads_43 : decode cX10_threads 43 = .ok (.ishl, 1) := by decide +kernel
theorem dX10_threads_44 : decode cX10_threads 44 = .ok (.imul, 1) := by decide +kernel
theorem dX10_threads_45 : decode cX10_threads 45 = .ok (.iload_n 2, 1) := by decide +kernel
theorem dX10_threads_46 : decode cX10_threads 46 = .ok (.iadd, 1) := by decide +kernel
theorem dX10_threads_47 : decode cX10_threads 47 = .ok (.iaload, 1) := by decide +kernel
theorem dX10_threads_48 : decode cX10_threads 48 = .ok (.invokestatic 326, 3) := by decide +kernel
theorem dX10_threads_51 : decode cX10_threads 51 = .ok (.goto 4, 3) := by decide +kernel
theorem dX10_threads_54 : decode cX10_threads 54 = .ok (.iload_n 1, 1) := by decide +kernel
theorem dX10_threads_55 : decode cX10_threads 55 = .ok (.istore_n 1, 1) := by decide +kernel
theorem dX10_threads_56 : decode cX10_threads 56 = .ok (.iinc 2 1, 3) := by decide +kernel
theorem dX10_threads_59 : decode cX10_threads 59 = .ok (.goto (-42), 3) := by decide +kernel
theorem dX10_threads_62 : decode cX10_threads 62 = .ok (.iload_n 1, 1) := by decide +kernel
theorem dX10_threads_63 : decode cX10_threads 63 = .ok (.ireturn, 1) := by decide +kernel
theorem dX10_threadedAt_0 : decode cX10_threadedAt 0 = .ok (.iconst 0, 1) := by decide +kernel
theorem dX10_threadedAt_1 : decode cX10_threadedAt 1 = .ok (.istore_n 2, 1) := by decide +kernel
theorem dX10_threadedAt_2 : decode cX10_threadedAt 2 = .ok (.iconst (-1), 1) := by decide +kernel
theorem dX10_threadedAt_3 : decode cX10_threadedAt 3 = .ok (.istore_n 3, 1) := by decide +kernel
theorem dX10_threadedAt_4 : decode cX10_threadedAt 4 = .ok (.aload_n 0, 1) := by decide +kernel
theorem dX10_threadedAt_5 : decode cX10_threadedAt 5 = .ok (.invokevirtual 389, 3) := by decide +kernel
theorem dX10_threadedAt_8 : decode cX10_threadedAt 8 = .ok (.istore 4, 2) := by decide +kernel
theorem dX10_threadedAt_10 : decode cX10_threadedAt 10 = .ok (.iconst 0, 1) := by decide +kernel
theorem dX10_threadedAt_11 : decode cX10_threadedAt 11 = .ok (.istore 5, 2) := by decide +kernel
theorem dX10_threadedAt_13 : decode cX10_threadedAt 13 = .ok (.iload 5, 2) := by decide +kernel
theorem dX10_threadedAt_15 : decode cX10_threadedAt 15 = .ok (.iload_n 1, 1) := by decide +kernel
theorem dX10_threadedAt_16 : decode cX10_threadedAt 16 = .ok (.if_icmp .gt 91, 3) := by decide +kernel
theorem dX10_threadedAt_19 : decode cX10_threadedAt 19 = .ok (.iconst 0, 1) := by decide +kernel
theorem dX10_threadedAt_20 : decode cX10_threadedAt 20 = .ok (.istore 6, 2) := by decide +kernel
theorem dX10_threadedAt_22 : decode cX10_threadedAt 22 = .ok (.aload_n 0, 1) := by decide +kernel
theorem dX10_threadedAt_23 : decode cX10_threadedAt 23 = .ok (.iload_n 2, 1) := by decide +kernel
theorem dX10_threadedAt_24 : decode cX10_threadedAt 24 = .ok (.iload 6, 2) := by decide +kernel
theorem dX10_threadedAt_26 : decode cX10_threadedAt 26 = .ok (.invokevirtual 365, 3) := by decide +kernel
theorem dX10_threadedAt_29 : decode cX10_threadedAt 29 = .ok (.ifCond .eq 42, 3) := by decide +kernel
theorem dX10_threadedAt_32 : decode cX10_threadedAt 32 = .ok (.aload_n 0, 1) := by decide +kernel
theorem dX10_threadedAt_33 : decode cX10_threadedAt 33 = .ok (.getfield 57, 3) := by decide +kernel
theorem dX10_threadedAt_36 : decode cX10_threadedAt 36 = .ok (.bipush 9, 2) := by decide +kernel
theorem dX10_threadedAt_38 : decode cX10_threadedAt 38 = .ok (.iload_n 2, 1) := by decide +kernel
theorem dX10_threadedAt_39 : decode cX10_threadedAt 39 = .ok (.iconst 1, 1) := by decide +kernel
theorem dX10_threadedAt_40 : decode cX10_threadedAt 40 = .ok (.iload 6, 2) := by decide +kernel
theorem dX10_threadedAt_42 : decode cX10_threadedAt 42 = .ok (.ishl, 1) := by decide +kernel
theorem dX10_threadedAt_43 : decode cX10_threadedAt 43 = .ok (.ior, 1) := by decide +kernel
theorem dX10_threadedAt_44 : decode cX10_threadedAt 44 = .ok (.imul, 1) := by decide +kernel
theorem dX10_threadedAt_45 : decode cX10_threadedAt 45 = .ok (.iload 6, 2) := by decide +kernel
theorem dX10_threadedAt_47 : decode cX10_threadedAt 47 = .ok (.iadd, 1) := by decide +kernel
theorem dX10_threadedAt_48 : decode cX10_threadedAt 48 = .ok (.iaload, 1) := by decide +kernel
theorem dX10_threadedAt_49 : decode cX10_threadedAt 49 = .ok (.iload_n 3, 1) := by decide +kernel
theorem dX10_threadedAt_50 : decode cX10_threadedAt 50 = .ok (.iconst (-1), 1) := by decide +kernel
theorem dX10_threadedAt_51 : decode cX10_threadedAt 51 = .ok (.if_icmp .ne 7, 3) := by decide +kernel
theorem dX10_threadedAt_54 : decode cX10_threadedAt 54 = .ok (.iconst 0, 1) := by decide +kernel
theorem dX10_threadedAt_55 : decode cX10_threadedAt 55 = .ok (.goto 10, 3) := by decide +kernel
theorem dX10_threadedAt_58 : decode cX10_threadedAt 58 = .ok (.aload_n 0, 1) := by decide +kernel
theorem dX10_threadedAt_59 : decode cX10_threadedAt 59 = .ok (.iload_n 3, 1) := by decide +kernel
theorem dX10_threadedAt_60 : decode cX10_threadedAt 60 = .ok (.iload 6, 2) := by decide +kernel
theorem dX10_threadedAt_62 : decode cX10_threadedAt 62 = .ok (.invokevirtual 386, 3) := by decide +kernel
theorem dX10_threadedAt_65 : decode cX10_threadedAt 65 = .ok (.iadd, 1) := by decide +kernel
theorem dX10_threadedAt_66 : decode cX10_threadedAt 66 = .ok (.iload 4, 2) := by decide +kernel
theorem dX10_threadedAt_68 : decode cX10_threadedAt 68 = .ok (.if_icmp .eq 9, 3) := by decide +kernel
theorem dX10_threadedAt_71 : decode cX10_threadedAt 71 = .ok (.iinc 6 1, 3) := by decide +kernel
theorem dX10_threadedAt_74 : decode cX10_threadedAt 74 = .ok (.goto (-52), 3) := by decide +kernel
theorem dX10_threadedAt_77 : decode cX10_threadedAt 77 = .ok (.iload_n 2, 1) := by decide +kernel
theorem dX10_threadedAt_78 : decode cX10_threadedAt 78 = .ok (.iconst 1, 1) := by decide +kernel
theorem dX10_threadedAt_79 : decode cX10_threadedAt 79 = .ok (.iload 6, 2) := by decide +kernel
theorem dX10_threadedAt_81 : decode cX10_threadedAt 81 = .ok (.ishl, 1) := by decide +kernel
theorem dX10_threadedAt_82 : decode cX10_threadedAt 82 = .ok (.ior, 1) := by decide +kernel
theorem dX10_threadedAt_83 : decode cX10_threadedAt 83 = .ok (.istore_n 2, 1) := by decide +kernel
theorem dX10_threadedAt_84 : decode cX10_threadedAt 84 = .ok (.aload_n 0, 1) := by decide +kernel
theorem dX10_threadedAt_85 : decode cX10_threadedAt 85 = .ok (.getfield 57, 3) := by decide +kernel
theorem dX10_threadedAt_88 : decode cX10_threadedAt 88 = .ok (.bipush 9, 2) := by decide +kernel
theorem dX10_threadedAt_90 : decode cX10_threadedAt 90 = .ok (.iload_n 2, 1) := by decide +kernel
theorem dX10_threadedAt_91 : decode cX10_threadedAt 91 = .ok (.imul, 1) := by decide +kernel
theorem dX10_threadedAt_92 : decode cX10_threadedAt 92 = .ok (.iload 6, 2) := by decide +kernel
theorem dX10_threadedAt_94 : decode cX10_threadedAt 94 = .ok (.iadd, 1) := by decide +kernel
theorem dX10_threadedAt_95 : decode cX10_threadedAt 95 = .ok (.iaload, 1) := by decide +kernel
theorem dX10_threadedAt_96 : decode cX10_threadedAt 96 = .ok (.istore 4, 2) := by decide +kernel
theorem dX10_threadedAt_98 : decode cX10_threadedAt 98 = .ok (.iload 6, 2) := by decide +kernel
theorem dX10_threadedAt_100 : decode cX10_threadedAt 100 = .ok (.istore_n 3, 1) := by decide +kernel
theorem dX10_threadedAt_101 : decode cX10_threadedAt 101 = .ok (.iinc 5 1, 3) := by decide +kernel
theorem dX10_threadedAt_104 : decode cX10_threadedAt 104 = .ok (.goto (-91), 3) := by decide +kernel
theorem dX10_threadedAt_107 : decode cX10_threadedAt 107 = .ok (.iload_n 3, 1) := by decide +kernel
theorem dX10_threadedAt_108 : decode cX10_threadedAt 108 = .ok (.ireturn, 1) := by decide +kernel
theorem dX10_order_0 : decode cX10_order 0 = .ok (.aload_n 0, 1) := by decide +kernel
theorem dX10_order_1 : decode cX10_order 1 = .ok (.iconst 0, 1) := by decide +kernel
theorem dX10_order_2 : decode cX10_order 2 = .ok (.putfield 94, 3) := by decide +kernel
theorem dX10_order_5 : decode cX10_order 5 = .ok (.aload_n 0, 1) := by decide +kernel
theorem dX10_order_6 : decode cX10_order 6 = .ok (.iload_n 1, 1) := by decide +kernel
theorem dX10_order_7 : decode cX10_order 7 = .ok (.invokevirtual 287, 3) := by decide +kernel
theorem dX10_order_10 : decode cX10_order 10 = .ok (.ifCond .eq 27, 3) := by decide +kernel
theorem dX10_order_13 : decode cX10_order 13 = .ok (.aload_n 0, 1) := by decide +kernel
theorem dX10_order_14 : decode cX10_order 14 = .ok (.iload_n 2, 1) := by decide +kernel
theorem dX10_order_15 : decode cX10_order 15 = .ok (.invokevirtual 290, 3) := by decide +kernel
theorem dX10_order_18 : decode cX10_order 18 = .ok (.ifCond .eq 19, 3) := by decide +kernel
theorem dX10_order_21 : decode cX10_order 21 = .ok (.iload_n 3, 1) := by decide +kernel
theorem dX10_order_22 : decode cX10_order 22 = .ok (.iconst 0, 1) := by decide +kernel
theorem dX10_order_23 : decode cX10_order 23 = .ok (.iconst 4, 1) := by decide +kernel
theorem dX10_order_24 : decode cX10_order 24 = .ok (.invokestatic 106, 3) := by decide +kernel
theorem dX10_order_27 : decode cX10_order 27 = .ok (.ifCond .eq 10, 3) := by decide +kernel
theorem dX10_order_30 : decode cX10_order 30 = .ok (.aload_n 0, 1) := by decide +kernel
theorem dX10_order_31 : decode cX10_order 31 = .ok (.invokevirtual 370, 3) := by decide +kernel
theorem dX10_order_34 : decode cX10_order 34 = .ok (.ifCond .ne 5, 3) := by decide +kernel
theorem dX10_order_37 : decode cX10_order 37 = .ok (.iconst (-1), 1) := by decide +kernel
theorem dX10_order_38 : decode cX10_order 38 = .ok (.ireturn, 1) := by decide +kernel
theorem dX10_order_39 : decode cX10_order 39 = .ok (.iload_n 3, 1) := by decide +kernel
theorem dX10_order_40 : decode cX10_order 40 = .ok (.tableswitch 73 0 3 #[32, 38, 47, 63], 32) := by decide +kernel
theorem dX10_order_72 : decode cX10_order 72 = .ok (.aload_n 0, 1) := by decide +kernel
theorem dX10_order_73 : decode cX10_order 73 = .ok (.iload_n 2, 1) := by decide +kernel
theorem dX10_order_74 : decode cX10_order 74 = .ok (.invokevirtual 392, 3) := by decide +kernel
theorem dX10_order_77 : decode cX10_order 77 = .ok (.ireturn, 1) := by decide +kernel
theorem dX10_order_78 : decode cX10_order 78 = .ok (.aload_n 0, 1) := by decide +kernel
theorem dX10_order_79 : decode cX10_order 79 = .ok (.iload_n 2, 1) := by decide +kernel
theorem dX10_order_80 : decode cX10_order 80 = .ok (.invokevirtual 373, 3) := by decide +kernel
theorem dX10_order_83 : decode cX10_order 83 = .ok (.invokestatic 395, 3) := by decide +kernel
theorem dX10_order_86 : decode cX10_order 86 = .ok (.ireturn, 1) := by decide +kernel
theorem dX10_order_87 : decode cX10_order 87 = .ok (.aload_n 0, 1) := by decide +kernel
theorem dX10_order_88 : decode cX10_order 88 = .ok (.getfield 281, 3) := by decide +kernel
theorem dX10_order_91 : decode cX10_order 91 = .ok (.iconst 1, 1) := by decide +kernel
theorem dX10_order_92 : decode cX10_order 92 = .ok (.isub, 1) := by decide +kernel
theorem dX10_order_93 : decode cX10_order 93 = .ok (.aload_n 0, 1) := by decide +kernel
theorem dX10_order_94 : decode cX10_order 94 = .ok (.iload_n 2, 1) := by decide +kernel
theorem dX10_order_95 : decode cX10_order 95 = .ok (.invokevirtual 398, 3) := by decide +kernel
theorem dX10_order_98 : decode cX10_order 98 = .ok (.invokestatic 395, 3) := by decide +kernel
theorem dX10_order_101 : decode cX10_order 101 = .ok (.isub, 1) := by decide +kernel
theorem dX10_order_102 : decode cX10_order 102 = .ok (.ireturn, 1) := by decide +kernel
theorem dX10_order_103 : decode cX10_order 103 = .ok (.aload_n 0, 1) := by decide +kernel
theorem dX10_order_104 : decode cX10_order 104 = .ok (.invokevirtual 401, 3) := by decide +kernel
theorem dX10_order_107 : decode cX10_order 107 = .ok (.aload_n 0, 1) := by decide +kernel
theorem dX10_order_108 : decode cX10_order 108 = .ok (.iload_n 2, 1) := by decide +kernel
theorem dX10_order_109 : decode cX10_order 109 = .ok (.invokevirtual 404, 3) := by decide +kernel
theorem dX10_order_112 : decode cX10_order 112 = .ok (.ireturn, 1) := by decide +kernel
theorem dX10_order_113 : decode cX10_order 113 = .ok (.aload_n 0, 1) := by decide +kernel
theorem dX10_order_114 : decode cX10_order 114 = .ok (.invokevirtual 407, 3) := by decide +kernel
theorem dX10_order_117 : decode cX10_order 117 = .ok (.aload_n 0, 1) := by decide +kernel
theorem dX10_order_118 : decode cX10_order 118 = .ok (.iload_n 2, 1) := by decide +kernel
theorem dX10_order_119 : decode cX10_order 119 = .ok (.invokevirtual 410, 3) := by decide +kernel
theorem dX10_order_122 : decode cX10_order 122 = .ok (.ireturn, 1) := by decide +kernel
theorem dX10_chain_0 : decode cX10_chain 0 = .ok (.iconst 0, 1) := by decide +kernel
theorem dX10_chain_1 : decode cX10_chain 1 = .ok (.istore_n 2, 1) := by decide +kernel
theorem dX10_chain_2 : decode cX10_chain 2 = .ok (.iload_n 2, 1) := by decide +kernel
theorem dX10_chain_3 : decode cX10_chain 3 = .ok (.bipush 9, 2) := by decide +kernel
theorem dX10_chain_5 : decode cX10_chain 5 = .ok (.if_icmp .ge 16, 3) := by decide +kernel
theorem dX10_chain_8 : decode cX10_chain 8 = .ok (.aload_n 0, 1) := by decide +kernel
theorem dX10_chain_9 : decode cX10_chain 9 = .ok (.getfield 60, 3) := by decide +kernel
theorem dX10_chain_12 : decode cX10_chain 12 = .ok (.iload_n 2, 1) := by decide +kernel
theorem dX10_chain_13 : decode cX10_chain 13 = .ok (.iconst 0, 1) := by decide +kernel
theorem dX10_chain_14 : decode cX10_chain 14 = .ok (.iastore, 1) := by decide +kernel
theorem dX10_chain_15 : decode cX10_chain 15 = .ok (.iinc 2 1, 3) := by decide +kernel
theorem dX10_chain_18 : decode cX10_chain 18 = .ok (.goto (-16), 3) := by decide +kernel
theorem dX10_chain_21 : decode cX10_chain 21 = .ok (.iconst 0, 1) := by decide +kernel
theorem dX10_chain_22 : decode cX10_chain 22 = .ok (.istore_n 2, 1) := by decide +kernel
theorem dX10_chain_23 : decode cX10_chain 23 = .ok (.iconst 0, 1) := by decide +kernel
theorem dX10_chain_24 : decode cX10_chain 24 = .ok (.istore_n 3, 1) := by decide +kernel
theorem dX10_chain_25 : decode cX10_chain 25 = .ok (.iload_n 3, 1) := by decide +kernel
theorem dX10_chain_26 : decode cX10_chain 26 = .ok (.bipush 9, 2) := by decide +kernel
theorem dX10_chain_28 : decode cX10_chain 28 = .ok (.if_icmp .ge 124, 3) := by decide +kernel
theorem dX10_chain_31 : decode cX10_chain 31 = .ok (.iconst 0, 1) := by decide +kernel
theorem dX10_chain_32 : decode cX10_chain 32 = .ok (.istore 4, 2) := by decide +kernel
theorem dX10_chain_34 : decode cX10_chain 34 = .ok (.iload 4, 2) := by decide +kernel
theorem dX10_chain_36 : decode cX10_chain 36 = .ok (.aload_n 0, 1) := by decide +kernel
theorem dX10_chain_37 : decode cX10_chain 37 = .ok (.getfield 281, 3) := by decide +kernel
theorem dX10_chain_40 : decode cX10_chain 40 = .ok (.if_icmp .ge 106, 3) := by decide +kernel
theorem dX10_chain_43 : decode cX10_chain 43 = .ok (.iconst 0, 1) := by decide +kernel
theorem dX10_chain_44 : decode cX10_chain 44 = .ok (.istore 5, 2) := by decide +kernel
theorem dX10_chain_46 : decode cX10_chain 46 = .ok (.iconst 0, 1) := by decide +kernel
theorem dX10_chain_47 : decode cX10_chain 47 = .ok (.istore 6, 2) := by decide +kernel
theorem dX10_chain_49 : decode cX10_chain 49 = .ok (.iload 6, 2) := by decide +kernel
theorem dX10_chain_51 : decode cX10_chain 51 = .ok (.aload_n 0, 1) := by decide +kernel
theorem dX10_chain_52 : decode cX10_chain 52 = .ok (.getfield 281, 3) := by decide +kernel
theorem dX10_chain_55 : decode cX10_chain 55 = .ok (.if_icmp .ge 45, 3) := by decide +kernel
theorem dX10_chain_58 : decode cX10_chain 58 = .ok (.aload_n 0, 1) := by decide +kernel
theorem dX10_chain_59 : decode cX10_chain 59 = .ok (.bipush 29, 2) := by decide +kernel
theorem dX10_chain_61 : decode cX10_chain 61 = .ok (.iload 4, 2) := by decide +kernel
theorem dX10_chain_63 : decode cX10_chain 63 = .ok (.iadd, 1) := by decide +kernel
theorem dX10_chain_64 : decode cX10_chain 64 = .ok (.invokevirtual 277, 3) := by decide +kernel
theorem dX10_chain_67 : decode cX10_chain 67 = .ok (.iload 6, 2) := by decide +kernel
theorem dX10_chain_69 : decode cX10_chain 69 = .ok (.invokestatic 98, 3) := by decide +kernel
theorem dX10_chain_72 : decode cX10_chain 72 = .ok (.ifCond .eq 18, 3) := by decide +kernel
theorem dX10_chain_75 : decode cX10_chain 75 = .ok (.iload 5, 2) := by decide +kernel
theorem dX10_chain_77 : decode cX10_chain 77 = .ok (.aload_n 0, 1) := by decide +kernel
theorem dX10_chain_78 : decode cX10_chain 78 = .ok (.getfield 60, 3) := by decide +kernel
theorem dX10_chain_81 : decode cX10_chain 81 = .ok (.iload 6, 2) := by decide +kernel
theorem dX10_chain_83 : decode cX10_chain 83 = .ok (.iaload, 1) := by decide +kernel
theorem dX10_chain_84 : decode cX10_chain 84 = .ok (.invokestatic 171, 3) := by decide +kernel
theorem dX10_chain_87 : decode cX10_chain 87 = .ok (.goto 5, 3) := by decide +kernel
theorem dX10_chain_90 : decode cX10_chain 90 = .ok (.iload 5, 2) := by decide +kernel
theorem dX10_chain_92 : decode cX10_chain 92 = .ok (.istore 5, 2) := by decide +kernel
theorem dX10_chain_94 : decode cX10_chain 94 = .ok (.iinc 6 1, 3) := by decide +kernel
theorem dX10_chain_97 : decode cX10_chain 97 = .ok (.goto (-48), 3) := by decide +kernel
theorem dX10_chain_100 : decode cX10_chain 100 = .ok (.aload_n 0, 1) := by decide +kernel
theorem dX10_chain_101 : decode cX10_chain 101 = .ok (.getfield 60, 3) := by decide +kernel
theorem dX10_chain_104 : decode cX10_chain 104 = .ok (.iload 4, 2) := by decide +kernel
theorem dX10_chain_106 : decode cX10_chain 106 = .ok (.iload 5, 2) := by decide +kernel
theorem dX10_chain_108 : decode cX10_chain 108 = .ok (.iload_n 1, 1) := by decide +kernel
theorem dX10_chain_109 : decode cX10_chain 109 = .ok (.ifCond .eq 21, 3) := by decide +kernel
theorem dX10_chain_112 : decode cX10_chain 112 = .ok (.aload_n 0, 1) := by decide +kernel
theorem dX10_chain_113 : decode cX10_chain 113 = .ok (.iconst 2, 1) := by decide +kernel
theorem dX10_chain_114 : decode cX10_chain 114 = .ok (.iload 4, 2) := by decide +kernel
theorem dX10_chain_116 : decode cX10_chain 116 = .ok (.iadd, 1) := by decide +kernel
theorem dX10_chain_117 : decode cX10_chain 117 = .ok (.invokevirtual 277, 3) := by decide +kernel
theorem dX10_chain_120 : decode cX10_chain 120 = .ok (.aload_n 0, 1) := by decide +kernel
theorem dX10_chain_121 : decode cX10_chain 121 = .ok (.getfield 284, 3) := by decide +kernel
theorem dX10_chain_124 : decode cX10_chain 124 = .ok (.invokestatic 413, 3) := by decide +kernel
theorem dX10_chain_127 : decode cX10_chain 127 = .ok (.goto 11, 3) := by decide +kernel
theorem dX10_chain_130 : decode cX10_chain 130 = .ok (.aload_n 0, 1) := by decide +kernel
theorem dX10_chain_131 : decode cX10_chain 131 = .ok (.iconst 2, 1) := by decide +kernel
theorem dX10_chain_132 : decode cX10_chain 132 = .ok (.iload 4, 2) := by decide +kernel
theorem dX10_chain_134 : decode cX10_chain 134 = .ok (.iadd, 1) := by decide +kernel
theorem dX10_chain_135 : decode cX10_chain 135 = .ok (.invokevirtual 277, 3) := by decide +kernel
theorem dX10_chain_138 : decode cX10_chain 138 = .ok (.iadd, 1) := by decide +kernel
theorem dX10_chain_139 : decode cX10_chain 139 = .ok (.iastore, 1) := by decide +kernel
theorem dX10_chain_140 : decode cX10_chain 140 = .ok (.iinc 4 1, 3) := by decide +kernel
theorem dX10_chain_143 : decode cX10_chain 143 = .ok (.goto (-109), 3) := by decide +kernel
theorem dX10_chain_146 : decode cX10_chain 146 = .ok (.iinc 3 1, 3) := by decide +kernel
theorem dX10_chain_149 : decode cX10_chain 149 = .ok (.goto (-124), 3) := by decide +kernel
theorem dX10_chain_152 : decode cX10_chain 152 = .ok (.iconst 0, 1) := by decide +kernel
theorem dX10_chain_153 : decode cX10_chain 153 = .ok (.istore_n 3, 1) := by decide +kernel
theorem dX10_chain_154 : decode cX10_chain 154 = .ok (.iload_n 3, 1) := by decide +kernel
theorem dX10_chain_155 : decode cX10_chain 155 = .ok (.aload_n 0, 1) := by decide +kernel
theorem dX10_chain_156 : decode cX10_chain 156 = .ok (.getfield 281, 3) := by decide +kernel
theorem dX10_chain_159 : decode cX10_chain 159 = .ok (.if_icmp .ge 20, 3) := by decide +kernel
theorem dX10_chain_162 : decode cX10_chain 162 = .ok (.iload_n 2, 1) := by decide +kernel
theorem dX10_chain_163 : decode cX10_chain 163 = .ok (.aload_n 0, 1) := by decide +kernel
theorem dX10_chain_164 : decode cX10_chain 164 = .ok (.getfield 60, 3) := by decide +kernel
theorem dX10_chain_167 : decode cX10_chain 167 = .ok (.iload_n 3, 1) := by decide +kernel
theorem dX10_chain_168 : decode cX10_chain 168 = .ok (.iaload, 1) := by decide +kernel
theorem dX10_chain_169 : decode cX10_chain 169 = .ok (.invokestatic 171, 3) := by decide +kernel
theorem dX10_chain_172 : decode cX10_chain 172 = .ok (.istore_n 2, 1) := by decide +kernel
theorem dX10_chain_173 : decode cX10_chain 173 = .ok (.iinc 3 1, 3) := by decide +kernel
theorem dX10_chain_176 : decode cX10_chain 176 = .ok (.goto (-22), 3) := by decide +kernel
theorem dX10_chain_179 : decode cX10_chain 179 = .ok (.iload_n 2, 1) := by decide +kernel
theorem dX10_chain_180 : decode cX10_chain 180 = .ok (.ireturn, 1) := by decide +kernel
theorem dX10_sewn_0 : decode cX10_sewn 0 = .ok (.aload_n 0, 1) := by decide +kernel
theorem dX10_sewn_1 : decode cX10_sewn 1 = .ok (.iconst 0, 1) := by decide +kernel
theorem dX10_sewn_2 : decode cX10_sewn 2 = .ok (.putfield 94, 3) := by decide +kernel
theorem dX10_sewn_5 : decode cX10_sewn 5 = .ok (.iload_n 2, 1) := by decide +kernel
theorem dX10_sewn_6 : decode cX10_sewn 6 = .ok (.iconst 0, 1) := by decide +kernel
theorem dX10_sewn_7 : decode cX10_sewn 7 = .ok (.iconst 3, 1) := by decide +kernel
theorem dX10_sewn_8 : decode cX10_sewn 8 = .ok (.invokestatic 106, 3) := by decide +kernel
theorem dX10_sewn_11 : decode cX10_sewn 11 = .ok (.ifCond .eq 18, 3) := by decide +kernel
theorem dX10_sewn_14 : decode cX10_sewn 14 = .ok (.aload_n 0, 1) := by decide +kernel
theorem dX10_sewn_15 : decode cX10_sewn 15 = .ok (.iload_n 1, 1) := by decide +kernel
theorem dX10_sewn_16 : decode cX10_sewn 16 = .ok (.invokevirtual 287, 3) := by decide +kernel
theorem dX10_sewn_19 : decode cX10_sewn 19 = .ok (.ifCond .eq 10, 3) := by decide +kernel
theorem dX10_sewn_22 : decode cX10_sewn 22 = .ok (.aload_n 0, 1) := by decide +kernel
theorem dX10_sewn_23 : decode cX10_sewn 23 = .ok (.invokevirtual 370, 3) := by decide +kernel
theorem dX10_sewn_26 : decode cX10_sewn 26 = .ok (.ifCond .ne 5, 3) := by decide +kernel
theorem dX10_sewn_29 : decode cX10_sewn 29 = .ok (.iconst (-1), 1) := by decide +kernel
theorem dX10_sewn_30 : decode cX10_sewn 30 = .ok (.ireturn, 1) := by decide +kernel
theorem dX10_sewn_31 : decode cX10_sewn 31 = .ok (.iload_n 2, 1) := by decide +kernel
theorem dX10_sewn_32 : decode cX10_sewn 32 = .ok (.ifCond .ne 14, 3) := by decide +kernel
theorem dX10_sewn_35 : decode cX10_sewn 35 = .ok (.aload_n 0, 1) := by decide +kernel
theorem dX10_sewn_36 : decode cX10_sewn 36 = .ok (.invokevirtual 401, 3) := by decide +kernel
theorem dX10_sewn_39 : decode cX10_sewn 39 = .ok (.aload_n 0, 1) := by decide +kernel
theorem dX10_sewn_40 : decode cX10_sewn 40 = .ok (.getfield 54, 3) := by decide +kernel
theorem dX10_sewn_43 : decode cX10_sewn 43 = .ok (.iconst 0, 1) := by decide +kernel
theorem dX10_sewn_44 : decode cX10_sewn 44 = .ok (.iaload, 1) := by decide +kernel
theorem dX10_sewn_45 : decode cX10_sewn 45 = .ok (.ireturn, 1) := by decide +kernel
theorem dX10_sewn_46 : decode cX10_sewn 46 = .ok (.iload_n 2, 1) := by decide +kernel
theorem dX10_sewn_47 : decode cX10_sewn 47 = .ok (.iconst 1, 1) := by decide +kernel
theorem dX10_sewn_48 : decode cX10_sewn 48 = .ok (.if_icmp .ne 12, 3) := by decide +kernel
theorem dX10_sewn_51 : decode cX10_sewn 51 = .ok (.aload_n 0, 1) := by decide +kernel
theorem dX10_sewn_52 : decode cX10_sewn 52 = .ok (.invokevirtual 407, 3) := by decide +kernel
theorem dX10_sewn_55 : decode cX10_sewn 55 = .ok (.aload_n 0, 1) := by decide +kernel
theorem dX10_sewn_56 : decode cX10_sewn 56 = .ok (.invokevirtual 389, 3) := by decide +kernel
theorem dX10_sewn_59 : decode cX10_sewn 59 = .ok (.ireturn, 1) := by decide +kernel
theorem dX10_sewn_60 : decode cX10_sewn 60 = .ok (.aload_n 0, 1) := by decide +kernel
theorem dX10_sewn_61 : decode cX10_sewn 61 = .ok (.iload_n 2, 1) := by decide +kernel
theorem dX10_sewn_62 : decode cX10_sewn 62 = .ok (.iconst 3, 1) := by decide +kernel
theorem dX10_sewn_63 : decode cX10_sewn 63 = .ok (.if_icmp .ne 7, 3) := by decide +kernel
theorem dX10_sewn_66 : decode cX10_sewn 66 = .ok (.iconst 1, 1) := by decide +kernel
theorem dX10_sewn_67 : decode cX10_sewn 67 = .ok (.goto 4, 3) := by decide +kernel
theorem dX10_sewn_70 : decode cX10_sewn 70 = .ok (.iconst 0, 1) := by decide +kernel
theorem dX10_sewn_71 : decode cX10_sewn 71 = .ok (.invokevirtual 416, 3) := by decide +kernel
theorem dX10_sewn_74 : decode cX10_sewn 74 = .ok (.ireturn, 1) := by decide +kernel
theorem dX10_crossing_0 : decode cX10_crossing 0 = .ok (.iconst 0, 1) := by decide +kernel
theorem dX10_crossing_1 : decode cX10_crossing 1 = .ok (.istore_n 2, 1) := by decide +kernel
theorem dX10_crossing_2 : decode cX10_crossing 2 = .ok (.iconst 0, 1) := by decide +kernel
theorem dX10_crossing_3 : decode cX10_crossing 3 = .ok (.istore_n 3, 1) := by decide +kernel
theorem dX10_crossing_4 : decode cX10_crossing 4 = .ok (.iload_n 3, 1) := by decide +kernel
theorem dX10_crossing_5 : decode cX10_crossing 5 = .ok (.aload_n 0, 1) := by decide +kernel
theorem dX10_crossing_6 : decode cX10_crossing 6 = .ok (.getfield 281, 3) := by decide +kernel
theorem dX10_crossing_9 : decode cX10_crossing 9 = .ok (.if_icmp .ge 90, 3) := by decide +kernel
theorem dX10_crossing_12 : decode cX10_crossing 12 = .ok (.iconst 0, 1) := by decide +kernel
theorem dX10_crossing_13 : decode cX10_crossing 13 = .ok (.istore 4, 2) := by decide +kernel
theorem dX10_crossing_15 : decode cX10_crossing 15 = .ok (.iload 4, 2) := by decide +kernel
theorem dX10_crossing_17 : decode cX10_crossing 17 = .ok (.iload_n 3, 1) := by decide +kernel
theorem dX10_crossing_18 : decode cX10_crossing 18 = .ok (.if_icmp .ge 75, 3) := by decide +kernel
theorem dX10_crossing_21 : decode cX10_crossing 21 = .ok (.aload_n 0, 1) := by decide +kernel
theorem dX10_crossing_22 : decode cX10_crossing 22 = .ok (.bipush 29, 2) := by decide +kernel
theorem dX10_crossing_24 : decode cX10_crossing 24 = .ok (.iload_n 3, 1) := by decide +kernel
theorem dX10_crossing_25 : decode cX10_crossing 25 = .ok (.iadd, 1) := by decide +kernel
theorem dX10_crossing_26 : decode cX10_crossing 26 = .ok (.invokevirtual 277, 3) := by decide +kernel
theorem dX10_crossing_29 : decode cX10_crossing 29 = .ok (.iload 4, 2) := by decide +kernel
theorem dX10_crossing_31 : decode cX10_crossing 31 = .ok (.invokestatic 98, 3) := by decide +kernel
theorem dX10_crossing_34 : decode cX10_crossing 34 = .ok (.ifCond .ne 19, 3) := by decide +kernel
theorem dX10_crossing_37 : decode cX10_crossing 37 = .ok (.aload_n 0, 1) := by decide +kernel
theorem dX10_crossing_38 : decode cX10_crossing 38 = .ok (.bipush 29, 2) := by decide +kernel
theorem dX10_crossing_40 : decode cX10_crossing 40 = .ok (.iload 4, 2) := by decide +kernel
theorem dX10_crossing_42 : decode cX10_crossing 42 = .ok (.iadd, 1) := by decide +kernel
theorem dX10_crossing_43 : decode cX10_crossing 43 = .ok (.invokevirtual 277, 3) := by decide +kernel
theorem dX10_crossing_46 : decode cX10_crossing 46 = .ok (.iload_n 3, 1) := by decide +kernel
theorem dX10_crossing_47 : decode cX10_crossing 47 = .ok (.invokestatic 98, 3) := by decide +kernel
theorem dX10_crossing_50 : decode cX10_crossing 50 = .ok (.ifCond .eq 7, 3) := by decide +kernel
theorem dX10_crossing_53 : decode cX10_crossing 53 = .ok (.iconst 1, 1) := by decide +kernel
theorem dX10_crossing_54 : decode cX10_crossing 54 = .ok (.goto 4, 3) := by decide +kernel
theorem dX10_crossing_57 : decode cX10_crossing 57 = .ok (.iconst 0, 1) := by decide +kernel
theorem dX10_crossing_58 : decode cX10_crossing 58 = .ok (.istore 5, 2) := by decide +kernel
theorem dX10_crossing_60 : decode cX10_crossing 60 = .ok (.iload_n 2, 1) := by decide +kernel
theorem dX10_crossing_61 : decode cX10_crossing 61 = .ok (.iload 5, 2) := by decide +kernel
theorem dX10_crossing_63 : decode cX10_crossing 63 = .ok (.ifCond .eq 21, 3) := by decide +kernel
theorem dX10_crossing_66 : decode cX10_crossing 66 = .ok (.iload_n 1, 1) := by decide +kernel
theorem dX10_crossing_67 : decode cX10_crossing 67 = .ok (.iload_n 3, 1) := by decide +kernel
theorem dX10_crossing_68 : decode cX10_crossing 68 = .ok (.invokestatic 98, 3) := by decide +kernel
theorem dX10_crossing_71 : decode cX10_crossing 71 = .ok (.iload_n 1, 1) := by decide +kernel
theorem dX10_crossing_72 : decode cX10_crossing 72 = .ok (.iload 4, 2) := by decide +kernel
theorem dX10_crossing_74 : decode cX10_crossing 74 = .ok (.invokestatic 98, 3) := by decide +kernel
theorem dX10_crossing_77 : decode cX10_crossing 77 = .ok (.if_icmp .eq 7, 3) := by decide +kernel
theorem dX10_crossing_80 : decode cX10_crossing 80 = .ok (.iconst 1, 1) := by decide +kernel
theorem dX10_crossing_81 : decode cX10_crossing 81 = .ok (.goto 4, 3) := by decide +kernel
theorem dX10_crossing_84 : decode cX10_crossing 84 = .ok (.iconst 0, 1) := by decide +kernel
theorem dX10_crossing_85 : decode cX10_crossing 85 = .ok (.iadd, 1) := by decide +kernel
theorem dX10_crossing_86 : decode cX10_crossing 86 = .ok (.istore_n 2, 1) := by decide +kernel
theorem dX10_crossing_87 : decode cX10_crossing 87 = .ok (.iinc 4 1, 3) := by decide +kernel
theorem dX10_crossing_90 : decode cX10_crossing 90 = .ok (.goto (-75), 3) := by decide +kernel
theorem dX10_crossing_93 : decode cX10_crossing 93 = .ok (.iinc 3 1, 3) := by decide +kernel
theorem dX10_crossing_96 : decode cX10_crossing 96 = .ok (.goto (-92), 3) := by decide +kernel
theorem dX10_crossing_99 : decode cX10_crossing 99 = .ok (.iload_n 2, 1) := by decide +kernel
theorem dX10_crossing_100 : decode cX10_crossing 100 = .ok (.ireturn, 1) := by decide +kernel
theorem dX10_parted_0 : decode cX10_parted 0 = .ok (.aload_n 0, 1) := by decide +kernel
theorem dX10_parted_1 : decode cX10_parted 1 = .ok (.iconst 0, 1) := by decide +kernel
theorem dX10_parted_2 : decode cX10_parted 2 = .ok (.putfield 94, 3) := by decide +kernel
theorem dX10_parted_5 : decode cX10_parted 5 = .ok (.aload_n 0, 1) := by decide +kernel
theorem dX10_parted_6 : decode cX10_parted 6 = .ok (.iload_n 1, 1) := by decide +kernel
theorem dX10_parted_7 : decode cX10_parted 7 = .ok (.invokevirtual 287, 3) := by decide +kernel
theorem dX10_parted_10 : decode cX10_parted 10 = .ok (.ifCond .eq 24, 3) := by decide +kernel
theorem dX10_parted_13 : decode cX10_parted 13 = .ok (.aload_n 0, 1) := by decide +kernel
theorem dX10_parted_14 : decode cX10_parted 14 = .ok (.iload_n 2, 1) := by decide +kernel
theorem dX10_parted_15 : decode cX10_parted 15 = .ok (.invokevirtual 290, 3) := by decide +kernel
theorem dX10_parted_18 : decode cX10_parted 18 = .ok (.ifCond .eq 16, 3) := by decide +kernel
theorem dX10_parted_21 : decode cX10_parted 21 = .ok (.aload_n 0, 1) := by decide +kernel
theorem dX10_parted_22 : decode cX10_parted 22 = .ok (.iload_n 3, 1) := by decide +kernel
theorem dX10_parted_23 : decode cX10_parted 23 = .ok (.invokevirtual 290, 3) := by decide +kernel
theorem dX10_parted_26 : decode cX10_parted 26 = .ok (.ifCond .eq 8, 3) := by decide +kernel
theorem dX10_parted_29 : decode cX10_parted 29 = .ok (.iload_n 2, 1) := by decide +kernel
theorem dX10_parted_30 : decode cX10_parted 30 = .ok (.iload_n 3, 1) := by decide +kernel
theorem dX10_parted_31 : decode cX10_parted 31 = .ok (.if_icmp .ne 5, 3) := by decide +kernel
theorem dX10_parted_34 : decode cX10_parted 34 = .ok (.iconst (-1), 1) := by decide +kernel
theorem dX10_parted_35 : decode cX10_parted 35 = .ok (.ireturn, 1) := by decide +kernel
theorem dX10_parted_36 : decode cX10_parted 36 = .ok (.iconst (-1), 1) := by decide +kernel
theorem dX10_parted_37 : decode cX10_parted 37 = .ok (.istore 5, 2) := by decide +kernel
theorem dX10_parted_39 : decode cX10_parted 39 = .ok (.iconst 0, 1) := by decide +kernel
theorem dX10_parted_40 : decode cX10_parted 40 = .ok (.istore 6, 2) := by decide +kernel
theorem dX10_parted_42 : decode cX10_parted 42 = .ok (.iload 6, 2) := by decide +kernel
theorem dX10_parted_44 : decode cX10_parted 44 = .ok (.iconst 1, 1) := by decide +kernel
theorem dX10_parted_45 : decode cX10_parted 45 = .ok (.aload_n 0, 1) := by decide +kernel
theorem dX10_parted_46 : decode cX10_parted 46 = .ok (.getfield 281, 3) := by decide +kernel
theorem dX10_parted_49 : decode cX10_parted 49 = .ok (.ishl, 1) := by decide +kernel
theorem dX10_parted_50 : decode cX10_parted 50 = .ok (.if_icmp .ge 69, 3) := by decide +kernel
theorem dX10_parted_53 : decode cX10_parted 53 = .ok (.iload 6, 2) := by decide +kernel
theorem dX10_parted_55 : decode cX10_parted 55 = .ok (.iload_n 2, 1) := by decide +kernel
theorem dX10_parted_56 : decode cX10_parted 56 = .ok (.invokestatic 98, 3) := by decide +kernel
theorem dX10_parted_59 : decode cX10_parted 59 = .ok (.ifCond .eq 16, 3) := by decide +kernel
theorem dX10_parted_62 : decode cX10_parted 62 = .ok (.iload 6, 2) := by decide +kernel
theorem dX10_parted_64 : decode cX10_parted 64 = .ok (.iload_n 3, 1) := by decide +kernel
theorem dX10_parted_65 : decode cX10_parted 65 = .ok (.invokestatic 98, 3) := by decide +kernel
theorem dX10_parted_68 : decode cX10_parted 68 = .ok (.ifCond .ne 7, 3) := by decide +kernel
theorem dX10_parted_71 : decode cX10_parted 71 = .ok (.iconst 1, 1) := by decide +kernel
theorem dX10_parted_72 : decode cX10_parted 72 = .ok (.goto 4, 3) := by decide +kernel
theorem dX10_parted_75 : decode cX10_parted 75 = .ok (.iconst 0, 1) := by decide +kernel
theorem dX10_parted_76 : decode cX10_parted 76 = .ok (.istore 7, 2) := by decide +kernel
theorem dX10_parted_78 : decode cX10_parted 78 = .ok (.iload 7, 2) := by decide +kernel
theorem dX10_parted_80 : decode cX10_parted 80 = .ok (.ifCond .eq 29, 3) := by decide +kernel
theorem dX10_parted_83 : decode cX10_parted 83 = .ok (.iload 5, 2) := by decide +kernel
theorem dX10_parted_85 : decode cX10_parted 85 = .ok (.iconst (-1), 1) := by decide +kernel
theorem dX10_parted_86 : decode cX10_parted 86 = .ok (.if_icmp .eq 18, 3) := by decide +kernel
theorem dX10_parted_89 : decode cX10_parted 89 = .ok (.aload_n 0, 1) := by decide +kernel
theorem dX10_parted_90 : decode cX10_parted 90 = .ok (.iload 6, 2) := by decide +kernel
theorem dX10_parted_92 : decode cX10_parted 92 = .ok (.invokevirtual 420, 3) := by decide +kernel
theorem dX10_parted_95 : decode cX10_parted 95 = .ok (.aload_n 0, 1) := by decide +kernel
theorem dX10_parted_96 : decode cX10_parted 96 = .ok (.iload 5, 2) := by decide +kernel
theorem dX10_parted_98 : decode cX10_parted 98 = .ok (.invokevirtual 420, 3) := by decide +kernel
theorem dX10_parted_101 : decode cX10_parted 101 = .ok (.if_icmp .ge 8, 3) := by decide +kernel
theorem dX10_parted_104 : decode cX10_parted 104 = .ok (.iload 6, 2) := by decide +kernel
theorem dX10_parted_106 : decode cX10_parted 106 = .ok (.goto 5, 3) := by decide +kernel
theorem dX10_parted_109 : decode cX10_parted 109 = .ok (.iload 5, 2) := by decide +kernel
theorem dX10_parted_111 : decode cX10_parted 111 = .ok (.istore 5, 2) := by decide +kernel
theorem dX10_parted_113 : decode cX10_parted 113 = .ok (.iinc 6 1, 3) := by decide +kernel
theorem dX10_parted_116 : decode cX10_parted 116 = .ok (.goto (-74), 3) := by decide +kernel
theorem dX10_parted_119 : decode cX10_parted 119 = .ok (.iload 4, 2) := by decide +kernel
theorem dX10_parted_121 : decode cX10_parted 121 = .ok (.ifCond .eq 8, 3) := by decide +kernel
theorem dX10_parted_124 : decode cX10_parted 124 = .ok (.iload 5, 2) := by decide +kernel
theorem dX10_parted_126 : decode cX10_parted 126 = .ok (.goto 9, 3) := by decide +kernel
theorem dX10_parted_129 : decode cX10_parted 129 = .ok (.aload_n 0, 1) := by decide +kernel
theorem dX10_parted_130 : decode cX10_parted 130 = .ok (.iload 5, 2) := by decide +kernel
theorem dX10_parted_132 : decode cX10_parted 132 = .ok (.invokevirtual 420, 3) := by decide +kernel
theorem dX10_parted_135 : decode cX10_parted 135 = .ok (.ireturn, 1) := by decide +kernel
theorem dX10_townOf_0 : decode cX10_townOf 0 = .ok (.aload_n 0, 1) := by decide +kernel
theorem dX10_townOf_1 : decode cX10_townOf 1 = .ok (.getfield 32, 3) := by decide +kernel
theorem dX10_townOf_4 : decode cX10_townOf 4 = .ok (.bipush 41, 2) := by decide +kernel
theorem dX10_townOf_6 : decode cX10_townOf 6 = .ok (.aload_n 0, 1) := by decide +kernel
theorem dX10_townOf_7 : decode cX10_townOf 7 = .ok (.getfield 423, 3) := by decide +kernel
theorem dX10_townOf_10 : decode cX10_townOf 10 = .ok (.imul, 1) := by decide +kernel
theorem dX10_townOf_11 : decode cX10_townOf 11 = .ok (.iload_n 1, 1) := by decide +kernel
theorem dX10_townOf_12 : decode cX10_townOf 12 = .ok (.iadd, 1) := by decide +kernel
theorem dX10_townOf_13 : decode cX10_townOf 13 = .ok (.iaload, 1) := by decide +kernel
theorem dX10_townOf_14 : decode cX10_townOf 14 = .ok (.ireturn, 1) := by decide +kernel
theorem dX10_layTown_0 : decode cX10_layTown 0 = .ok (.aload_n 0, 1) := by decide +kernel
theorem dX10_layTown_1 : decode cX10_layTown 1 = .ok (.iload_n 1, 1) := by decide +kernel
theorem dX10_layTown_2 : decode cX10_layTown 2 = .ok (.putfield 423, 3) := by decide +kernel
theorem dX10_layTown_5 : decode cX10_layTown 5 = .ok (.aload_n 0, 1) := by decide +kernel
theorem dX10_layTown_6 : decode cX10_layTown 6 = .ok (.iconst 2, 1) := by decide +kernel
theorem dX10_layTown_7 : decode cX10_layTown 7 = .ok (.iload_n 1, 1) := by decide +kernel
theorem dX10_layTown_8 : decode cX10_layTown 8 = .ok (.invokevirtual 265, 3) := by decide +kernel
theorem dX10_layTown_11 : decode cX10_layTown 11 = .ok (.ifCond .ne 5, 3) := by decide +kernel
theorem dX10_layTown_14 : decode cX10_layTown 14 = .ok (.iconst 0, 1) := by decide +kernel
theorem dX10_layTown_15 : decode cX10_layTown 15 = .ok (.ireturn, 1) := by decide +kernel
theorem dX10_layTown_16 : decode cX10_layTown 16 = .ok (.aload_n 0, 1) := by decide +kernel
theorem dX10_layTown_17 : decode cX10_layTown 17 = .ok (.aload_n 0, 1) := by decide +kernel
theorem dX10_layTown_18 : decode cX10_layTown 18 = .ok (.iconst 0, 1) := by decide +kernel
theorem dX10_layTown_19 : decode cX10_layTown 19 = .ok (.invokevirtual 426, 3) := by decide +kernel
theorem dX10_layTown_22 : decode cX10_layTown 22 = .ok (.putfield 429, 3) := by decide +kernel
theorem dX10_layTown_25 : decode cX10_layTown 25 = .ok (.aload_n 0, 1) := by decide +kernel
theorem dX10_layTown_26 : decode cX10_layTown 26 = .ok (.aload_n 0, 1) := by decide +kernel
theorem dX10_layTown_27 : decode cX10_layTown 27 = .ok (.iconst 3, 1) := by decide +kernel
theorem dX10_layTown_28 : decode cX10_layTown 28 = .ok (.invokevirtual 426, 3) := by decide +kernel
theorem dX10_layTown_31 : decode cX10_layTown 31 = .ok (.putfield 432, 3) := by decide +kernel
theorem dX10_layTown_34 : decode cX10_layTown 34 = .ok (.aload_n 0, 1) := by decide +kernel
theorem dX10_layTown_35 : decode cX10_layTown 35 = .ok (.aload_n 0, 1) := by decide +kernel
theorem dX10_layTown_36 : decode cX10_layTown 36 = .ok (.iconst 4, 1) := by decide +kernel
theorem dX10_layTown_37 : decode cX10_layTown 37 = .ok (.invokevirtual 426, 3) := by decide +kernel
theorem dX10_layTown_40 : decode cX10_layTown 40 = .ok (.putfield 435, 3) := by decide +kernel
theorem dX10_layTown_43 : decode cX10_layTown 43 = .ok (.iconst 1, 1) := by decide +kernel
theorem dX10_layTown_44 : decode cX10_layTown 44 = .ok (.ireturn, 1) := by decide +kernel
theorem dX10_isWearer_0 : decode cX10_isWearer 0 = .ok (.iload_n 1, 1) := by decide +kernel
theorem dX10_isWearer_1 : decode cX10_isWearer 1 = .ok (.iconst 0, 1) := by decide +kernel
theorem dX10_isWearer_2 : decode cX10_isWearer 2 = .ok (.aload_n 0, 1) := by decide +kernel
theorem dX10_isWearer_3 : decode cX10_isWearer 3 = .ok (.getfield 429, 3) := by decide +kernel
theorem dX10_isWearer_6 : decode cX10_isWearer 6 = .ok (.iconst 1, 1) := by decide +kernel
theorem dX10_isWearer_7 : decode cX10_isWearer 7 = .ok (.isub, 1) := by decide +kernel
theorem dX10_isWearer_8 : decode cX10_isWearer 8 = .ok (.invokestatic 106, 3) := by decide +kernel
theorem dX10_isWearer_11 : decode cX10_isWearer 11 = .ok (.ireturn, 1) := by decide +kernel
theorem dX10_town_0 : decode cX10_town 0 = .ok (.aload_n 0, 1) := by decide +kernel
theorem dX10_town_1 : decode cX10_town 1 = .ok (.iconst 0, 1) := by decide +kernel
theorem dX10_town_2 : decode cX10_town 2 = .ok (.putfield 94, 3) := by decide +kernel
theorem dX10_town_5 : decode cX10_town 5 = .ok (.aload_n 0, 1) := by decide +kernel
theorem dX10_town_6 : decode cX10_town 6 = .ok (.iload_n 1, 1) := by decide +kernel
theorem dX10_town_7 : decode cX10_town 7 = .ok (.invokevirtual 438, 3) := by decide +kernel
theorem dX10_town_10 : decode cX10_town 10 = .ok (.ifCond .ne 6, 3) := by decide +kernel
theorem dX10_town_13 : decode cX10_town 13 = .ok (.bipush (-2), 2) := by decide +kernel
theorem dX10_town_15 : decode cX10_town 15 = .ok (.ireturn, 1) := by decide +kernel
theorem dX10_town_16 : decode cX10_town 16 = .ok (.iload_n 2, 1) := by decide +kernel
theorem dX10_town_17 : decode cX10_town 17 = .ok (.bipush 10, 2) := by decide +kernel
theorem dX10_town_19 : decode cX10_town 19 = .ok (.bipush 69, 2) := by decide +kernel
theorem dX10_town_21 : decode cX10_town 21 = .ok (.invokestatic 106, 3) := by decide +kernel
theorem dX10_town_24 : decode cX10_town 24 = .ok (.ifCond .eq 40, 3) := by decide +kernel
theorem dX10_town_27 : decode cX10_town 27 = .ok (.aload_n 0, 1) := by decide +kernel
theorem dX10_town_28 : decode cX10_town 28 = .ok (.iload_n 2, 1) := by decide +kernel
theorem dX10_town_29 : decode cX10_town 29 = .ok (.bipush 10, 2) := by decide +kernel
theorem dX10_town_31 : decode cX10_town 31 = .ok (.irem, 1) := by decide +kernel
theorem dX10_town_32 : decode cX10_town 32 = .ok (.invokevirtual 441, 3) := by decide +kernel
theorem dX10_town_35 : decode cX10_town 35 = .ok (.ifCond .eq 26, 3) := by decide +kernel
theorem dX10_town_38 : decode cX10_town 38 = .ok (.aload_n 0, 1) := by decide +kernel
theorem dX10_town_39 : decode cX10_town 39 = .ok (.iconst 5, 1) := by decide +kernel
theorem dX10_town_40 : decode cX10_town 40 = .ok (.bipush 6, 2) := by decide +kernel
theorem dX10_town_42 : decode cX10_town 42 = .ok (.iload_n 2, 1) := by decide +kernel
theorem dX10_town_43 : decode cX10_town 43 = .ok (.bipush 10, 2) := by decide +kernel
theorem dX10_town_45 : decode cX10_town 45 = .ok (.idiv, 1) := by decide +kernel
theorem dX10_town_46 : decode cX10_town 46 = .ok (.iconst 1, 1) := by decide +kernel
theorem dX10_town_47 : decode cX10_town 47 = .ok (.isub, 1) := by decide +kernel
theorem dX10_town_48 : decode cX10_town 48 = .ok (.imul, 1) := by decide +kernel
theorem dX10_town_49 : decode cX10_town 49 = .ok (.iadd, 1) := by decide +kernel
theorem dX10_town_50 : decode cX10_town 50 = .ok (.iload_n 2, 1) := by decide +kernel
theorem dX10_town_51 : decode cX10_town 51 = .ok (.bipush 10, 2) := by decide +kernel
theorem dX10_town_53 : decode cX10_town 53 = .ok (.irem, 1) := by decide +kernel
theorem dX10_town_54 : decode cX10_town 54 = .ok (.iadd, 1) := by decide +kernel
theorem dX10_town_55 : decode cX10_town 55 = .ok (.invokevirtual 426, 3) := by decide +kernel
theorem dX10_town_58 : decode cX10_town 58 = .ok (.goto 5, 3) := by decide +kernel
theorem dX10_town_61 : decode cX10_town 61 = .ok (.bipush (-2), 2) := by decide +kernel
theorem dX10_town_63 : decode cX10_town 63 = .ok (.ireturn, 1) := by decide +kernel
theorem dX10_town_64 : decode cX10_town 64 = .ok (.iload_n 2, 1) := by decide +kernel
theorem dX10_town_65 : decode cX10_town 65 = .ok (.iconst 0, 1) := by decide +kernel
theorem dX10_town_66 : decode cX10_town 66 = .ok (.iconst 4, 1) := by decide +kernel
theorem dX10_town_67 : decode cX10_town 67 = .ok (.invokestatic 106, 3) := by decide +kernel
theorem dX10_town_70 : decode cX10_town 70 = .ok (.ifCond .eq 11, 3) := by decide +kernel
theorem dX10_town_73 : decode cX10_town 73 = .ok (.aload_n 0, 1) := by decide +kernel
theorem dX10_town_74 : decode cX10_town 74 = .ok (.iload_n 2, 1) := by decide +kernel
theorem dX10_town_75 : decode cX10_town 75 = .ok (.invokevirtual 426, 3) := by decide +kernel
theorem dX10_town_78 : decode cX10_town 78 = .ok (.goto 5, 3) := by decide +kernel
theorem dX10_town_81 : decode cX10_town 81 = .ok (.bipush (-2), 2) := by decide +kernel
theorem dX10_town_83 : decode cX10_town 83 = .ok (.ireturn, 1) := by decide +kernel
theorem dX10_ways_0 : decode cX10_ways 0 = .ok (.iload_n 1, 1) := by decide +kernel
theorem dX10_ways_1 : decode cX10_ways 1 = .ok (.aload_n 0, 1) := by decide +kernel
theorem dX10_ways_2 : decode cX10_ways 2 = .ok (.iconst 5, 1) := by decide +kernel
theorem dX10_ways_3 : decode cX10_ways 3 = .ok (.iload_n 3, 1) := by decide +kernel
theorem dX10_ways_4 : decode cX10_ways 4 = .ok (.iadd, 1) := by decide +kernel
theorem dX10_ways_5 : decode cX10_ways 5 = .ok (.invokevirtual 426, 3) := by decide +kernel
theorem dX10_ways_8 : decode cX10_ways 8 = .ok (.isub, 1) := by decide +kernel
theorem dX10_ways_9 : decode cX10_ways 9 = .ok (.istore 4, 2) := by decide +kernel
theorem dX10_ways_11 : decode cX10_ways 11 = .ok (.iload_n 2, 1) := by decide +kernel
theorem dX10_ways_12 : decode cX10_ways 12 = .ok (.aload_n 0, 1) := by decide +kernel
theorem dX10_ways_13 : decode cX10_ways 13 = .ok (.bipush 11, 2) := by decide +kernel
theorem dX10_ways_15 : decode cX10_ways 15 = .ok (.iload_n 3, 1) := by decide +kernel
theorem dX10_ways_16 : decode cX10_ways 16 = .ok (.iadd, 1) := by decide +kernel
theorem dX10_ways_17 : decode cX10_ways 17 = .ok (.invokevirtual 426, 3) := by decide +kernel
theorem dX10_ways_20 : decode cX10_ways 20 = .ok (.isub, 1) := by decide +kernel
theorem dX10_ways_21 : decode cX10_ways 21 = .ok (.istore 5, 2) := by decide +kernel
theorem dX10_ways_23 : decode cX10_ways 23 = .ok (.iload 4, 2) := by decide +kernel
theorem dX10_ways_25 : decode cX10_ways 25 = .ok (.ifCond .ge 9, 3) := by decide +kernel
theorem dX10_ways_28 : decode cX10_ways 28 = .ok (.iload 4, 2) := by decide +kernel
theorem dX10_ways_30 : decode cX10_ways 30 = .ok (.ineg, 1) := by decide +kernel
theorem dX10_ways_31 : decode cX10_ways 31 = .ok (.goto 5, 3) := by decide +kernel
theorem dX10_ways_34 : decode cX10_ways 34 = .ok (.iload 4, 2) := by decide +kernel
theorem dX10_ways_36 : decode cX10_ways 36 = .ok (.iload 5, 2) := by decide +kernel
theorem dX10_ways_38 : decode cX10_ways 38 = .ok (.ifCond .ge 9, 3) := by decide +kernel
theorem dX10_ways_41 : decode cX10_ways 41 = .ok (.iload 5, 2) := by decide +kernel
theorem dX10_ways_43 : decode cX10_ways 43 = .ok (.ineg, 1) := by decide +kernel
theorem dX10_ways_44 : decode cX10_ways 44 = .ok (.goto 5, 3) := by decide +kernel
theorem dX10_ways_47 : decode cX10_ways 47 = .ok (.iload 5, 2) := by decide +kernel
theorem dX10_ways_49 : decode cX10_ways 49 = .ok (.iadd, 1) := by decide +kernel
theorem dX10_ways_50 : decode cX10_ways 50 = .ok (.istore 6, 2) := by decide +kernel
theorem dX10_ways_52 : decode cX10_ways 52 = .ok (.iload 6, 2) := by decide +kernel
theorem dX10_ways_54 : decode cX10_ways 54 = .ok (.aload_n 0, 1) := by decide +kernel
theorem dX10_ways_55 : decode cX10_ways 55 = .ok (.iconst 2, 1) := by decide +kernel
theorem dX10_ways_56 : decode cX10_ways 56 = .ok (.invokevirtual 426, 3) := by decide +kernel
theorem dX10_ways_59 : decode cX10_ways 59 = .ok (.invokestatic 413, 3) := by decide +kernel
theorem dX10_ways_62 : decode cX10_ways 62 = .ok (.ireturn, 1) := by decide +kernel
theorem dX10_between_0 : decode cX10_between 0 = .ok (.aload_n 0, 1) := by decide +kernel
theorem dX10_between_1 : decode cX10_between 1 = .ok (.aload_n 0, 1) := by decide +kernel
theorem dX10_between_2 : decode cX10_between 2 = .ok (.iconst 5, 1) := by decide +kernel
theorem dX10_between_3 : decode cX10_between 3 = .ok (.iload_n 1, 1) := by decide +kernel
theorem dX10_between_4 : decode cX10_between 4 = .ok (.iadd, 1) := by decide +kernel
theorem dX10_between_5 : decode cX10_between 5 = .ok (.invokevirtual 426, 3) := by decide +kernel
theorem dX10_between_8 : decode cX10_between 8 = .ok (.aload_n 0, 1) := by decide +kernel
theorem dX10_between_9 : decode cX10_between 9 = .ok (.bipush 11, 2) := by decide +kernel
theorem dX10_between_11 : decode cX10_between 11 = .ok (.iload_n 1, 1) := by decide +kernel
theorem dX10_between_12 : decode cX10_between 12 = .ok (.iadd, 1) := by decide +kernel
theorem dX10_between_13 : decode cX10_between 13 = .ok (.invokevirtual 426, 3) := by decide +kernel
theorem dX10_between_16 : decode cX10_between 16 = .ok (.iload_n 2, 1) := by decide +kernel
theorem dX10_between_17 : decode cX10_between 17 = .ok (.invokevirtual 444, 3) := by decide +kernel
theorem dX10_between_20 : decode cX10_between 20 = .ok (.ireturn, 1) := by decide +kernel
theorem dX10_doneAt_0 : decode cX10_doneAt 0 = .ok (.aload_n 0, 1) := by decide +kernel
theorem dX10_doneAt_1 : decode cX10_doneAt 1 = .ok (.bipush 17, 2) := by decide +kernel
theorem dX10_doneAt_3 : decode cX10_doneAt 3 = .ok (.iload_n 1, 1) := by decide +kernel
theorem dX10_doneAt_4 : decode cX10_doneAt 4 = .ok (.iadd, 1) := by decide +kernel
theorem dX10_doneAt_5 : decode cX10_doneAt 5 = .ok (.invokevirtual 426, 3) := by decide +kernel
theorem dX10_doneAt_8 : decode cX10_doneAt 8 = .ok (.aload_n 0, 1) := by decide +kernel
theorem dX10_doneAt_9 : decode cX10_doneAt 9 = .ok (.iconst 1, 1) := by decide +kernel
theorem dX10_doneAt_10 : decode cX10_doneAt 10 = .ok (.invokevirtual 426, 3) := by decide +kernel
theorem dX10_doneAt_13 : decode cX10_doneAt 13 = .ok (.invokestatic 413, 3) := by decide +kernel
theorem dX10_doneAt_16 : decode cX10_doneAt 16 = .ok (.istore_n 3, 1) := by decide +kernel
theorem dX10_doneAt_17 : decode cX10_doneAt 17 = .ok (.aload_n 0, 1) := by decide +kernel
theorem dX10_doneAt_18 : decode cX10_doneAt 18 = .ok (.bipush 29, 2) := by decide +kernel
theorem dX10_doneAt_20 : decode cX10_doneAt 20 = .ok (.iload_n 1, 1) := by decide +kernel
theorem dX10_doneAt_21 : decode cX10_doneAt 21 = .ok (.iadd, 1) := by decide +kernel
theorem dX10_doneAt_22 : decode cX10_doneAt 22 = .ok (.invokevirtual 426, 3) := by decide +kernel
theorem dX10_doneAt_25 : decode cX10_doneAt 25 = .ok (.iconst (-1), 1) := by decide +kernel
theorem dX10_doneAt_26 : decode cX10_doneAt 26 = .ok (.if_icmp .eq 35, 3) := by decide +kernel
theorem dX10_doneAt_29 : decode cX10_doneAt 29 = .ok (.iload_n 2, 1) := by decide +kernel
theorem dX10_doneAt_30 : decode cX10_doneAt 30 = .ok (.aload_n 0, 1) := by decide +kernel
theorem dX10_doneAt_31 : decode cX10_doneAt 31 = .ok (.bipush 35, 2) := by decide +kernel
theorem dX10_doneAt_33 : decode cX10_doneAt 33 = .ok (.iload_n 1, 1) := by decide +kernel
theorem dX10_doneAt_34 : decode cX10_doneAt 34 = .ok (.iadd, 1) := by decide +kernel
theorem dX10_doneAt_35 : decode cX10_doneAt 35 = .ok (.invokevirtual 426, 3) := by decide +kernel
theorem dX10_doneAt_38 : decode cX10_doneAt 38 = .ok (.if_icmp .gt 23, 3) := by decide +kernel
theorem dX10_doneAt_41 : decode cX10_doneAt 41 = .ok (.iload_n 2, 1) := by decide +kernel
theorem dX10_doneAt_42 : decode cX10_doneAt 42 = .ok (.iload_n 3, 1) := by decide +kernel
theorem dX10_doneAt_43 : decode cX10_doneAt 43 = .ok (.iadd, 1) := by decide +kernel
theorem dX10_doneAt_44 : decode cX10_doneAt 44 = .ok (.iconst 1, 1) := by decide +kernel
theorem dX10_doneAt_45 : decode cX10_doneAt 45 = .ok (.isub, 1) := by decide +kernel
theorem dX10_doneAt_46 : decode cX10_doneAt 46 = .ok (.aload_n 0, 1) := by decide +kernel
theorem dX10_doneAt_47 : decode cX10_doneAt 47 = .ok (.bipush 29, 2) := by decide +kernel
theorem dX10_doneAt_49 : decode cX10_doneAt 49 = .ok (.iload_n 1, 1) := by decide +kernel
theorem dX10_doneAt_50 : decode cX10_doneAt 50 = .ok (.iadd, 1) := by decide +kernel
theorem dX10_doneAt_51 : decode cX10_doneAt 51 = .ok (.invokevirtual 426, 3) := by decide +kernel
theorem dX10_doneAt_54 : decode cX10_doneAt 54 = .ok (.if_icmp .lt 7, 3) := by decide +kernel
theorem dX10_doneAt_57 : decode cX10_doneAt 57 = .ok (.iconst 1, 1) := by decide +kernel
theorem dX10_doneAt_58 : decode cX10_doneAt 58 = .ok (.goto 4, 3) := by decide +kernel
theorem dX10_doneAt_61 : decode cX10_doneAt 61 = .ok (.iconst 0, 1) := by decide +kernel
theorem dX10_doneAt_62 : decode cX10_doneAt 62 = .ok (.istore 4, 2) := by decide +kernel
theorem dX10_doneAt_64 : decode cX10_doneAt 64 = .ok (.iload 4, 2) := by decide +kernel
theorem dX10_doneAt_66 : decode cX10_doneAt 66 = .ok (.ifCond .eq 16, 3) := by decide +kernel
theorem dX10_doneAt_69 : decode cX10_doneAt 69 = .ok (.aload_n 0, 1) := by decide +kernel
theorem dX10_doneAt_70 : decode cX10_doneAt 70 = .ok (.bipush 35, 2) := by decide +kernel
theorem dX10_doneAt_72 : decode cX10_doneAt 72 = .ok (.iload_n 1, 1) := by decide +kernel
theorem dX10_doneAt_73 : decode cX10_doneAt 73 = .ok (.iadd, 1) := by decide +kernel
theorem dX10_doneAt_74 : decode cX10_doneAt 74 = .ok (.invokevirtual 426, 3) := by decide +kernel
theorem dX10_doneAt_77 : decode cX10_doneAt 77 = .ok (.iconst 1, 1) := by decide +kernel
theorem dX10_doneAt_78 : decode cX10_doneAt 78 = .ok (.iadd, 1) := by decide +kernel
theorem dX10_doneAt_79 : decode cX10_doneAt 79 = .ok (.goto 4, 3) := by decide +kernel
theorem dX10_doneAt_82 : decode cX10_doneAt 82 = .ok (.iload_n 2, 1) := by decide +kernel
theorem dX10_doneAt_83 : decode cX10_doneAt 83 = .ok (.iload_n 3, 1) := by decide +kernel
theorem dX10_doneAt_84 : decode cX10_doneAt 84 = .ok (.iadd, 1) := by decide +kernel
theorem dX10_doneAt_85 : decode cX10_doneAt 85 = .ok (.iconst 1, 1) := by decide +kernel
theorem dX10_doneAt_86 : decode cX10_doneAt 86 = .ok (.isub, 1) := by decide +kernel
theorem dX10_doneAt_87 : decode cX10_doneAt 87 = .ok (.ireturn, 1) := by decide +kernel
theorem dX10_walk_0 : decode cX10_walk 0 = .ok (.iconst 0, 1) := by decide +kernel
theorem dX10_walk_1 : decode cX10_walk 1 = .ok (.istore_n 2, 1) := by decide +kernel
theorem dX10_walk_2 : decode cX10_walk 2 = .ok (.iload_n 2, 1) := by decide +kernel
theorem dX10_walk_3 : decode cX10_walk 3 = .ok (.iload_n 1, 1) := by decide +kernel
theorem dX10_walk_4 : decode cX10_walk 4 = .ok (.if_icmp .ge 81, 3) := by decide +kernel
theorem dX10_walk_7 : decode cX10_walk 7 = .ok (.iload_n 2, 1) := by decide +kernel
theorem dX10_walk_8 : decode cX10_walk 8 = .ok (.ifCond .ne 24, 3) := by decide +kernel
theorem dX10_walk_11 : decode cX10_walk 11 = .ok (.aload_n 0, 1) := by decide +kernel
theorem dX10_walk_12 : decode cX10_walk 12 = .ok (.aload_n 0, 1) := by decide +kernel
theorem dX10_walk_13 : decode cX10_walk 13 = .ok (.getfield 432, 3) := by decide +kernel
theorem dX10_walk_16 : decode cX10_walk 16 = .ok (.aload_n 0, 1) := by decide +kernel
theorem dX10_walk_17 : decode cX10_walk 17 = .ok (.getfield 435, 3) := by decide +kernel
theorem dX10_walk_20 : decode cX10_walk 20 = .ok (.aload_n 0, 1) := by decide +kernel
theorem dX10_walk_21 : decode cX10_walk 21 = .ok (.getfield 63, 3) := by decide +kernel
theorem dX10_walk_24 : decode cX10_walk 24 = .ok (.iconst 0, 1) := by decide +kernel
theorem dX10_walk_25 : decode cX10_walk 25 = .ok (.iaload, 1) := by decide +kernel
theorem dX10_walk_26 : decode cX10_walk 26 = .ok (.invokevirtual 444, 3) := by decide +kernel
theorem dX10_walk_29 : decode cX10_walk 29 = .ok (.goto 32, 3) := by decide +kernel
theorem dX10_walk_32 : decode cX10_walk 32 = .ok (.aload_n 0, 1) := by decide +kernel
theorem dX10_walk_33 : decode cX10_walk 33 = .ok (.getfield 66, 3) := by decide +kernel
theorem dX10_walk_36 : decode cX10_walk 36 = .ok (.iload_n 2, 1) := by decide +kernel
theorem dX10_walk_37 : decode cX10_walk 37 = .ok (.iconst 1, 1) := by decide +kernel
theorem dX10_walk_38 : decode cX10_walk 38 = .ok (.isub, 1) := by decide +kernel
theorem dX10_walk_39 : decode cX10_walk 39 = .ok (.iaload, 1) := by decide +kernel
theorem dX10_walk_40 : decode cX10_walk 40 = .ok (.iconst 1, 1) := by decide +kernel
theorem dX10_walk_41 : decode cX10_walk 41 = .ok (.iadd, 1) := by decide +kernel
theorem dX10_walk_42 : decode cX10_walk 42 = .ok (.aload_n 0, 1) := by decide +kernel
theorem dX10_walk_43 : decode cX10_walk 43 = .ok (.aload_n 0, 1) := by decide +kernel
theorem dX10_walk_44 : decode cX10_walk 44 = .ok (.getfield 63, 3) := by decide +kernel
theorem dX10_walk_47 : decode cX10_walk 47 = .ok (.iload_n 2, 1) := by decide +kernel
theorem dX10_walk_48 : decode cX10_walk 48 = .ok (.iconst 1, 1) := by decide +kernel
theorem dX10_walk_49 : decode cX10_walk 49 = .ok (.isub, 1) := by decide +kernel
theorem dX10_walk_50 : decode cX10_walk 50 = .ok (.iaload, 1) := by decide +kernel
theorem dX10_walk_51 : decode cX10_walk 51 = .ok (.aload_n 0, 1) := by decide +kernel
theorem dX10_walk_52 : decode cX10_walk 52 = .ok (.getfield 63, 3) := by decide +kernel
theorem dX10_walk_55 : decode cX10_walk 55 = .ok (.iload_n 2, 1) := by decide +kernel
theorem dX10_walk_56 : decode cX10_walk 56 = .ok (.iaload, 1) := by decide +kernel
theorem dX10_walk_57 : decode cX10_walk 57 = .ok (.invokevirtual 448, 3) := by decide +kernel
theorem dX10_walk_60 : decode cX10_walk 60 = .ok (.iadd, 1) := by decide +kernel
theorem dX10_walk_61 : decode cX10_walk 61 = .ok (.istore_n 3, 1) := by decide +kernel
theorem dX10_walk_62 : decode cX10_walk 62 = .ok (.aload_n 0, 1) := by decide +kernel
theorem dX10_walk_63 : decode cX10_walk 63 = .ok (.getfield 66, 3) := by decide +kernel
theorem dX10_walk_66 : decode cX10_walk 66 = .ok (.iload_n 2, 1) := by decide +kernel
theorem dX10_walk_67 : decode cX10_walk 67 = .ok (.aload_n 0, 1) := by decide +kernel
theorem dX10_walk_68 : decode cX10_walk 68 = .ok (.aload_n 0, 1) := by decide +kernel
theorem dX10_walk_69 : decode cX10_walk 69 = .ok (.getfield 63, 3) := by decide +kernel
theorem dX10_walk_72 : decode cX10_walk 72 = .ok (.iload_n 2, 1) := by decide +kernel
theorem dX10_walk_73 : decode cX10_walk 73 = .ok (.iaload, 1) := by decide +kernel
theorem dX10_walk_74 : decode cX10_walk 74 = .ok (.iload_n 3, 1) := by decide +kernel
theorem dX10_walk_75 : decode cX10_walk 75 = .ok (.invokevirtual 451, 3) := by decide +kernel
theorem dX10_walk_78 : decode cX10_walk 78 = .ok (.iastore, 1) := by decide +kernel
theorem dX10_walk_79 : decode cX10_walk 79 = .ok (.iinc 2 1, 3) := by decide +kernel
theorem dX10_walk_82 : decode cX10_walk 82 = .ok (.goto (-80), 3) := by decide +kernel
theorem dX10_walk_85 : decode cX10_walk 85 = .ok (.return_, 1) := by decide +kernel
theorem dX10_done_0 : decode cX10_done 0 = .ok (.aload_n 0, 1) := by decide +kernel
theorem dX10_done_1 : decode cX10_done 1 = .ok (.iconst 0, 1) := by decide +kernel
theorem dX10_done_2 : decode cX10_done 2 = .ok (.putfield 94, 3) := by decide +kernel
theorem dX10_done_5 : decode cX10_done 5 = .ok (.aload_n 0, 1) := by decide +kernel
theorem dX10_done_6 : decode cX10_done 6 = .ok (.iload_n 1, 1) := by decide +kernel
theorem dX10_done_7 : decode cX10_done 7 = .ok (.invokevirtual 438, 3) := by decide +kernel
theorem dX10_done_10 : decode cX10_done 10 = .ok (.ifCond .eq 29, 3) := by decide +kernel
theorem dX10_done_13 : decode cX10_done 13 = .ok (.iload_n 3, 1) := by decide +kernel
theorem dX10_done_14 : decode cX10_done 14 = .ok (.iconst 1, 1) := by decide +kernel
theorem dX10_done_15 : decode cX10_done 15 = .ok (.bipush 6, 2) := by decide +kernel
theorem dX10_done_17 : decode cX10_done 17 = .ok (.invokestatic 106, 3) := by decide +kernel
theorem dX10_done_20 : decode cX10_done 20 = .ok (.ifCond .eq 19, 3) := by decide +kernel
theorem dX10_done_23 : decode cX10_done 23 = .ok (.iload 4, 2) := by decide +kernel
theorem dX10_done_25 : decode cX10_done 25 = .ok (.iconst 0, 1) := by decide +kernel
theorem dX10_done_26 : decode cX10_done 26 = .ok (.iload_n 3, 1) := by decide +kernel
theorem dX10_done_27 : decode cX10_done 27 = .ok (.iconst 1, 1) := by decide +kernel
theorem dX10_done_28 : decode cX10_done 28 = .ok (.isub, 1) := by decide +kernel
theorem dX10_done_29 : decode cX10_done 29 = .ok (.invokestatic 106, 3) := by decide +kernel
theorem dX10_done_32 : decode cX10_done 32 = .ok (.ifCond .eq 7, 3) := by decide +kernel
theorem dX10_done_35 : decode cX10_done 35 = .ok (.iload_n 2, 1) := by decide +kernel
theorem dX10_done_36 : decode cX10_done 36 = .ok (.ifCond .ge 5, 3) := by decide +kernel
theorem dX10_done_39 : decode cX10_done 39 = .ok (.iconst (-1), 1) := by decide +kernel
theorem dX10_done_40 : decode cX10_done 40 = .ok (.ireturn, 1) := by decide +kernel
theorem dX10_done_41 : decode cX10_done 41 = .ok (.iload_n 2, 1) := by decide +kernel
theorem dX10_done_42 : decode cX10_done 42 = .ok (.istore 5, 2) := by decide +kernel
theorem dX10_done_44 : decode cX10_done 44 = .ok (.iconst 0, 1) := by decide +kernel
theorem dX10_done_45 : decode cX10_done 45 = .ok (.istore 6, 2) := by decide +kernel
theorem dX10_done_47 : decode cX10_done 47 = .ok (.iload_n 3, 1) := by decide +kernel
theorem dX10_done_48 : decode cX10_done 48 = .ok (.iconst 1, 1) := by decide +kernel
theorem dX10_done_49 : decode cX10_done 49 = .ok (.isub, 1) := by decide +kernel
theorem dX10_done_50 : decode cX10_done 50 = .ok (.istore 7, 2) := by decide +kernel
theorem dX10_done_52 : decode cX10_done 52 = .ok (.iload 7, 2) := by decide +kernel
theorem dX10_done_54 : decode cX10_done 54 = .ok (.ifCond .lt 73, 3) := by decide +kernel
theorem dX10_done_57 : decode cX10_done 57 = .ok (.aload_n 0, 1) := by decide +kernel
theorem dX10_done_58 : decode cX10_done 58 = .ok (.getfield 63, 3) := by decide +kernel
theorem dX10_done_61 : decode cX10_done 61 = .ok (.iload 7, 2) := by decide +kernel
theorem dX10_done_63 : decode cX10_done 63 = .ok (.iload 5, 2) := by decide +kernel
theorem dX10_done_65 : decode cX10_done 65 = .ok (.bipush 6, 2) := by decide +kernel
theorem dX10_done_67 : decode cX10_done 67 = .ok (.irem, 1) := by decide +kernel
theorem dX10_done_68 : decode cX10_done 68 = .ok (.iastore, 1) := by decide +kernel
theorem dX10_done_69 : decode cX10_done 69 = .ok (.iload 5, 2) := by decide +kernel
theorem dX10_done_71 : decode cX10_done 71 = .ok (.bipush 6, 2) := by decide +kernel
theorem dX10_done_73 : decode cX10_done 73 = .ok (.idiv, 1) := by decide +kernel
theorem dX10_done_74 : decode cX10_done 74 = .ok (.istore 5, 2) := by decide +kernel
theorem dX10_done_76 : decode cX10_done 76 = .ok (.aload_n 0, 1) := by decide +kernel
theorem dX10_done_77 : decode cX10_done 77 = .ok (.aload_n 0, 1) := by decide +kernel
theorem dX10_done_78 : decode cX10_done 78 = .ok (.getfield 63, 3) := by decide +kernel
theorem dX10_done_81 : decode cX10_done 81 = .ok (.iload 7, 2) := by decide +kernel
theorem dX10_done_83 : decode cX10_done 83 = .ok (.iaload, 1) := by decide +kernel
theorem dX10_done_84 : decode cX10_done 84 = .ok (.invokevirtual 441, 3) := by decide +kernel
theorem dX10_done_87 : decode cX10_done 87 = .ok (.ifCond .eq 18, 3) := by decide +kernel
theorem dX10_done_90 : decode cX10_done 90 = .ok (.iload 6, 2) := by decide +kernel
theorem dX10_done_92 : decode cX10_done 92 = .ok (.aload_n 0, 1) := by decide +kernel
theorem dX10_done_93 : decode cX10_done 93 = .ok (.getfield 63, 3) := by decide +kernel
theorem dX10_done_96 : decode cX10_done 96 = .ok (.iload 7, 2) := by decide +kernel
theorem dX10_done_98 : decode cX10_done 98 = .ok (.iaload, 1) := by decide +kernel
theorem dX10_done_99 : decode cX10_done 99 = .ok (.invokestatic 98, 3) := by decide +kernel
theorem dX10_done_102 : decode cX10_done 102 = .ok (.ifCond .eq 5, 3) := by decide +kernel
theorem dX10_done_105 : decode cX10_done 105 = .ok (.iconst (-1), 1) := by decide +kernel
theorem dX10_done_106 : decode cX10_done 106 = .ok (.ireturn, 1) := by decide +kernel
theorem dX10_done_107 : decode cX10_done 107 = .ok (.iload 6, 2) := by decide +kernel
theorem dX10_done_109 : decode cX10_done 109 = .ok (.iconst 1, 1) := by decide +kernel
theorem dX10_done_110 : decode cX10_done 110 = .ok (.aload_n 0, 1) := by decide +kernel
theorem dX10_done_111 : decode cX10_done 111 = .ok (.getfield 63, 3) := by decide +kernel
theorem dX10_done_114 : decode cX10_done 114 = .ok (.iload 7, 2) := by decide +kernel
theorem dX10_done_116 : decode cX10_done 116 = .ok (.iaload, 1) := by decide +kernel
theorem dX10_done_117 : decode cX10_done 117 = .ok (.ishl, 1) := by decide +kernel
theorem dX10_done_118 : decode cX10_done 118 = .ok (.ior, 1) := by decide +kernel
theorem dX10_done_119 : decode cX10_done 119 = .ok (.istore 6, 2) := by decide +kernel
theorem dX10_done_121 : decode cX10_done 121 = .ok (.iinc 7 (-1), 3) := by decide +kernel
theorem dX10_done_124 : decode cX10_done 124 = .ok (.goto (-72), 3) := by decide +kernel
theorem dX10_done_127 : decode cX10_done 127 = .ok (.iload 5, 2) := by decide +kernel
theorem dX10_done_129 : decode cX10_done 129 = .ok (.ifCond .le 5, 3) := by decide +kernel
theorem dX10_done_132 : decode cX10_done 132 = .ok (.iconst (-1), 1) := by decide +kernel
theorem dX10_done_133 : decode cX10_done 133 = .ok (.ireturn, 1) := by decide +kernel
theorem dX10_done_134 : decode cX10_done 134 = .ok (.aload_n 0, 1) := by decide +kernel
theorem dX10_done_135 : decode cX10_done 135 = .ok (.iload_n 3, 1) := by decide +kernel
theorem dX10_done_136 : decode cX10_done 136 = .ok (.invokevirtual 454, 3) := by decide +kernel
theorem dX10_done_139 : decode cX10_done 139 = .ok (.aload_n 0, 1) := by decide +kernel
theorem dX10_done_140 : decode cX10_done 140 = .ok (.getfield 66, 3) := by decide +kernel
theorem dX10_done_143 : decode cX10_done 143 = .ok (.iload 4, 2) := by decide +kernel
theorem dX10_done_145 : decode cX10_done 145 = .ok (.iaload, 1) := by decide +kernel
theorem dX10_done_146 : decode cX10_done 146 = .ok (.ireturn, 1) := by decide +kernel
theorem dX10_firstRow_0 : decode cX10_firstRow 0 = .ok (.iconst 0, 1) := by decide +kernel
theorem dX10_firstRow_1 : decode cX10_firstRow 1 = .ok (.istore_n 1, 1) := by decide +kernel
theorem dX10_firstRow_2 : decode cX10_firstRow 2 = .ok (.iload_n 1, 1) := by decide +kernel
theorem dX10_firstRow_3 : decode cX10_firstRow 3 = .ok (.aload_n 0, 1) := by decide +kernel
theorem dX10_firstRow_4 : decode cX10_firstRow 4 = .ok (.getfield 429, 3) := by decide +kernel
theorem dX10_firstRow_7 : decode cX10_firstRow 7 = .ok (.if_icmp .ge 16, 3) := by decide +kernel
theorem dX10_firstRow_10 : decode cX10_firstRow 10 = .ok (.aload_n 0, 1) := by decide +kernel
theorem dX10_firstRow_11 : decode cX10_firstRow 11 = .ok (.getfield 63, 3) := by decide +kernel
theorem dX10_firstRow_14 : decode cX10_firstRow 14 = .ok (.iload_n 1, 1) := by decide +kernel
theorem dX10_firstRow_15 : decode cX10_firstRow 15 = .ok (.iload_n 1, 1) := by decide +kernel
theorem dX10_firstRow_16 : decode cX10_firstRow 16 = .ok (.iastore, 1) := by decide +kernel
theorem dX10_firstRow_17 : decode cX10_firstRow 17 = .ok (.iinc 1 1, 3) := by decide +kernel
theorem dX10_firstRow_20 : decode cX10_firstRow 20 = .ok (.goto (-18), 3) := by decide +kernel
theorem dX10_firstRow_23 : decode cX10_firstRow 23 = .ok (.return_, 1) := by decide +kernel
theorem dX10_swap_0 : decode cX10_swap 0 = .ok (.aload_n 0, 1) := by decide +kernel
theorem dX10_swap_1 : decode cX10_swap 1 = .ok (.getfield 63, 3) := by decide +kernel
theorem dX10_swap_4 : decode cX10_swap 4 = .ok (.iload_n 1, 1) := by decide +kernel
theorem dX10_swap_5 : decode cX10_swap 5 = .ok (.iaload, 1) := by decide +kernel
theorem dX10_swap_6 : decode cX10_swap 6 = .ok (.istore_n 3, 1) := by decide +kernel
theorem dX10_swap_7 : decode cX10_swap 7 = .ok (.aload_n 0, 1) := by decide +kernel
theorem dX10_swap_8 : decode cX10_swap 8 = .ok (.getfield 63, 3) := by decide +kernel
theorem dX10_swap_11 : decode cX10_swap 11 = .ok (.iload_n 1, 1) := by decide +kernel
theorem dX10_swap_12 : decode cX10_swap 12 = .ok (.aload_n 0, 1) := by decide +kernel
theorem dX10_swap_13 : decode cX10_swap 13 = .ok (.getfield 63, 3) := by decide +kernel
theorem dX10_swap_16 : decode cX10_swap 16 = .ok (.iload_n 2, 1) := by decide +kernel
theorem dX10_swap_17 : decode cX10_swap 17 = .ok (.iaload, 1) := by decide +kernel
theorem dX10_swap_18 : decode cX10_swap 18 = .ok (.iastore, 1) := by decide +kernel
theorem dX10_swap_19 : decode cX10_swap 19 = .ok (.aload_n 0, 1) := by decide +kernel
theorem dX10_swap_20 : decode cX10_swap 20 = .ok (.getfield 63, 3) := by decide +kernel
theorem dX10_swap_23 : decode cX10_swap 23 = .ok (.iload_n 2, 1) := by decide +kernel
theorem dX10_swap_24 : decode cX10_swap 24 = .ok (.iload_n 3, 1) := by decide +kernel
theorem dX10_swap_25 : decode cX10_swap 25 = .ok (.iastore, 1) := by decide +kernel
theorem dX10_swap_26 : decode cX10_swap 26 = .ok (.return_, 1) := by decide +kernel
theorem dX10_nextRow_0 : decode cX10_nextRow 0 = .ok (.aload_n 0, 1) := by decide +kernel
theorem dX10_nextRow_1 : decode cX10_nextRow 1 = .ok (.getfield 429, 3) := by decide +kernel
theorem dX10_nextRow_4 : decode cX10_nextRow 4 = .ok (.iconst 2, 1) := by decide +kernel
theorem dX10_nextRow_5 : decode cX10_nextRow 5 = .ok (.isub, 1) := by decide +kernel
theorem dX10_nextRow_6 : decode cX10_nextRow 6 = .ok (.istore_n 1, 1) := by decide +kernel
theorem dX10_nextRow_7 : decode cX10_nextRow 7 = .ok (.iload_n 1, 1) := by decide +kernel
theorem dX10_nextRow_8 : decode cX10_nextRow 8 = .ok (.ifCond .lt 26, 3) := by decide +kernel
theorem dX10_nextRow_11 : decode cX10_nextRow 11 = .ok (.aload_n 0, 1) := by decide +kernel
theorem dX10_nextRow_12 : decode cX10_nextRow 12 = .ok (.getfield 63, 3) := by decide +kernel
theorem dX10_nextRow_15 : decode cX10_nextRow 15 = .ok (.iload_n 1, 1) := by decide +kernel
theorem dX10_nextRow_16 : decode cX10_nextRow 16 = .ok (.iaload, 1) := by decide +kernel
theorem dX10_nextRow_17 : decode cX10_nextRow 17 = .ok (.aload_n 0, 1) := by decide +kernel
theorem dX10_nextRow_18 : decode cX10_nextRow 18 = .ok (.getfield 63, 3) := by decide +kernel
theorem dX10_nextRow_21 : decode cX10_nextRow 21 = .ok (.iload_n 1, 1) := by decide +kernel
theorem dX10_nextRow_22 : decode cX10_nextRow 22 = .ok (.iconst 1, 1) := by decide +kernel
theorem dX10_nextRow_23 : decode cX10_nextRow 23 = .ok (.iadd, 1) := by decide +kernel
theorem dX10_nextRow_24 : decode cX10_nextRow 24 = .ok (.iaload, 1) := by decide +kernel
theorem dX10_nextRow_25 : decode cX10_nextRow 25 = .ok (.if_icmp .le 9, 3) := by decide +kernel
theorem dX10_nextRow_28 : decode cX10_nextRow 28 = .ok (.iinc 1 (-1), 3) := by decide +kernel
theorem dX10_nextRow_31 : decode cX10_nextRow 31 = .ok (.goto (-24), 3) := by decide +kernel
theorem dX10_nextRow_34 : decode cX10_nextRow 34 = .ok (.iload_n 1, 1) := by decide +kernel
theorem dX10_nextRow_35 : decode cX10_nextRow 35 = .ok (.ifCond .ge 5, 3) := by decide +kernel
theorem dX10_nextRow_38 : decode cX10_nextRow 38 = .ok (.iconst 0, 1) := by decide +kernel
theorem dX10_nextRow_39 : decode cX10_nextRow 39 = .ok (.ireturn, 1) := by decide +kernel
theorem dX10_nextRow_40 : decode cX10_nextRow 40 = .ok (.aload_n 0, 1) := by decide +kernel
theorem dX10_nextRow_41 : decode cX10_nextRow 41 = .ok (.getfield 429, 3) := by decide +kernel
theorem dX10_nextRow_44 : decode cX10_nextRow 44 = .ok (.iconst 1, 1) := by decide +kernel
theorem dX10_nextRow_45 : decode cX10_nextRow 45 = .ok (.isub, 1) := by decide +kernel
theorem dX10_nextRow_46 : decode cX10_nextRow 46 = .ok (.istore_n 2, 1) := by decide +kernel
theorem dX10_nextRow_47 : decode cX10_nextRow 47 = .ok (.aload_n 0, 1) := by decide +kernel
theorem dX10_nextRow_48 : decode cX10_nextRow 48 = .ok (.getfield 63, 3) := by decide +kernel
theorem dX10_nextRow_51 : decode cX10_nextRow 51 = .ok (.iload_n 2, 1) := by decide +kernel
theorem dX10_nextRow_52 : decode cX10_nextRow 52 = .ok (.iaload, 1) := by decide +kernel
theorem dX10_nextRow_53 : decode cX10_nextRow 53 = .ok (.aload_n 0, 1) := by decide +kernel
theorem dX10_nextRow_54 : decode cX10_nextRow 54 = .ok (.getfield 63, 3) := by decide +kernel
theorem dX10_nextRow_57 : decode cX10_nextRow 57 = .ok (.iload_n 1, 1) := by decide +kernel
theorem dX10_nextRow_58 : decode cX10_nextRow 58 = .ok (.iaload, 1) := by decide +kernel
theorem dX10_nextRow_59 : decode cX10_nextRow 59 = .ok (.if_icmp .ge 9, 3) := by decide +kernel
theorem dX10_nextRow_62 : decode cX10_nextRow 62 = .ok (.iinc 2 (-1), 3) := by decide +kernel
theorem dX10_nextRow_65 : decode cX10_nextRow 65 = .ok (.goto (-18), 3) := by decide +kernel
theorem dX10_nextRow_68 : decode cX10_nextRow 68 = .ok (.aload_n 0, 1) := by decide +kernel
theorem dX10_nextRow_69 : decode cX10_nextRow 69 = .ok (.iload_n 1, 1) := by decide +kernel
theorem dX10_nextRow_70 : decode cX10_nextRow 70 = .ok (.iload_n 2, 1) := by decide +kernel
theorem dX10_nextRow_71 : decode cX10_nextRow 71 = .ok (.invokevirtual 457, 3) := by decide +kernel
theorem dX10_nextRow_74 : decode cX10_nextRow 74 = .ok (.iload_n 1, 1) := by decide +kernel
theorem dX10_nextRow_75 : decode cX10_nextRow 75 = .ok (.iconst 1, 1) := by decide +kernel
theorem dX10_nextRow_76 : decode cX10_nextRow 76 = .ok (.iadd, 1) := by decide +kernel
theorem dX10_nextRow_77 : decode cX10_nextRow 77 = .ok (.istore_n 3, 1) := by decide +kernel
theorem dX10_nextRow_78 : decode cX10_nextRow 78 = .ok (.aload_n 0, 1) := by decide +kernel
theorem dX10_nextRow_79 : decode cX10_nextRow 79 = .ok (.getfield 429, 3) := by decide +kernel
theorem dX10_nextRow_82 : decode cX10_nextRow 82 = .ok (.iconst 1, 1) := by decide +kernel
theorem dX10_nextRow_83 : decode cX10_nextRow 83 = .ok (.isub, 1) := by decide +kernel
theorem dX10_nextRow_84 : decode cX10_nextRow 84 = .ok (.istore 4, 2) := by decide +kernel
theorem dX10_nextRow_86 : decode cX10_nextRow 86 = .ok (.iload_n 3, 1) := by decide +kernel
theorem dX10_nextRow_87 : decode cX10_nextRow 87 = .ok (.iload 4, 2) := by decide +kernel
theorem dX10_nextRow_89 : decode cX10_nextRow 89 = .ok (.if_icmp .ge 19, 3) := by decide +kernel
theorem dX10_nextRow_92 : decode cX10_nextRow 92 = .ok (.aload_n 0, 1) := by decide +kernel
theorem dX10_nextRow_93 : decode cX10_nextRow 93 = .ok (.iload_n 3, 1) := by decide +kernel
theorem dX10_nextRow_94 : decode cX10_nextRow 94 = .ok (.iload 4, 2) := by decide +kernel
theorem dX10_nextRow_96 : decode cX10_nextRow 96 = .ok (.invokevirtual 457, 3) := by decide +kernel
theorem dX10_nextRow_99 : decode cX10_nextRow 99 = .ok (.iinc 3 1, 3) := by decide +kernel
theorem dX10_nextRow_102 : decode cX10_nextRow 102 = .ok (.iinc 4 (-1), 3) := by decide +kernel
theorem dX10_nextRow_105 : decode cX10_nextRow 105 = .ok (.goto (-19), 3) := by decide +kernel
theorem dX10_nextRow_108 : decode cX10_nextRow 108 = .ok (.iconst 1, 1) := by decide +kernel
theorem dX10_nextRow_109 : decode cX10_nextRow 109 = .ok (.ireturn, 1) := by decide +kernel
theorem dX10_inTime_0 : decode cX10_inTime 0 = .ok (.iconst 0, 1) := by decide +kernel
theorem dX10_inTime_1 : decode cX10_inTime 1 = .ok (.istore_n 1, 1) := by decide +kernel
theorem dX10_inTime_2 : decode cX10_inTime 2 = .ok (.iload_n 1, 1) := by decide +kernel
theorem dX10_inTime_3 : decode cX10_inTime 3 = .ok (.aload_n 0, 1) := by decide +kernel
theorem dX10_inTime_4 : decode cX10_inTime 4 = .ok (.getfield 429, 3) := by decide +kernel
theorem dX10_inTime_7 : decode cX10_inTime 7 = .ok (.if_icmp .ge 31, 3) := by decide +kernel
theorem dX10_inTime_10 : decode cX10_inTime 10 = .ok (.aload_n 0, 1) := by decide +kernel
theorem dX10_inTime_11 : decode cX10_inTime 11 = .ok (.getfield 66, 3) := by decide +kernel
theorem dX10_inTime_14 : decode cX10_inTime 14 = .ok (.iload_n 1, 1) := by decide +kernel
theorem dX10_inTime_15 : decode cX10_inTime 15 = .ok (.iaload, 1) := by decide +kernel
theorem dX10_inTime_16 : decode cX10_inTime 16 = .ok (.aload_n 0, 1) := by decide +kernel
theorem dX10_inTime_17 : decode cX10_inTime 17 = .ok (.bipush 23, 2) := by decide +kernel
theorem dX10_inTime_19 : decode cX10_inTime 19 = .ok (.aload_n 0, 1) := by decide +kernel
theorem dX10_inTime_20 : decode cX10_inTime 20 = .ok (.getfield 63, 3) := by decide +kernel
theorem dX10_inTime_23 : decode cX10_inTime 23 = .ok (.iload_n 1, 1) := by decide +kernel
theorem dX10_inTime_24 : decode cX10_inTime 24 = .ok (.iaload, 1) := by decide +kernel
theorem dX10_inTime_25 : decode cX10_inTime 25 = .ok (.iadd, 1) := by decide +kernel
theorem dX10_inTime_26 : decode cX10_inTime 26 = .ok (.invokevirtual 426, 3) := by decide +kernel
theorem dX10_inTime_29 : decode cX10_inTime 29 = .ok (.if_icmp .gt 9, 3) := by decide +kernel
theorem dX10_inTime_32 : decode cX10_inTime 32 = .ok (.iinc 1 1, 3) := by decide +kernel
theorem dX10_inTime_35 : decode cX10_inTime 35 = .ok (.goto (-33), 3) := by decide +kernel
theorem dX10_inTime_38 : decode cX10_inTime 38 = .ok (.iload_n 1, 1) := by decide +kernel
theorem dX10_inTime_39 : decode cX10_inTime 39 = .ok (.ireturn, 1) := by decide +kernel
theorem dX10_lateness_0 : decode cX10_lateness 0 = .ok (.iconst 0, 1) := by decide +kernel
theorem dX10_lateness_1 : decode cX10_lateness 1 = .ok (.istore_n 1, 1) := by decide +kernel
theorem dX10_lateness_2 : decode cX10_lateness 2 = .ok (.iconst 0, 1) := by decide +kernel
theorem dX10_lateness_3 : decode cX10_lateness 3 = .ok (.istore_n 2, 1) := by decide +kernel
theorem dX10_lateness_4 : decode cX10_lateness 4 = .ok (.iload_n 2, 1) := by decide +kernel
theorem dX10_lateness_5 : decode cX10_lateness 5 = .ok (.aload_n 0, 1) := by decide +kernel
theorem dX10_lateness_6 : decode cX10_lateness 6 = .ok (.getfield 429, 3) := by decide +kernel
theorem dX10_lateness_9 : decode cX10_lateness 9 = .ok (.if_icmp .ge 36, 3) := by decide +kernel
theorem dX10_lateness_12 : decode cX10_lateness 12 = .ok (.iload_n 1, 1) := by decide +kernel
theorem dX10_lateness_13 : decode cX10_lateness 13 = .ok (.iconst 0, 1) := by decide +kernel
theorem dX10_lateness_14 : decode cX10_lateness 14 = .ok (.aload_n 0, 1) := by decide +kernel
theorem dX10_lateness_15 : decode cX10_lateness 15 = .ok (.getfield 66, 3) := by decide +kernel
theorem dX10_lateness_18 : decode cX10_lateness 18 = .ok (.iload_n 2, 1) := by decide +kernel
theorem dX10_lateness_19 : decode cX10_lateness 19 = .ok (.iaload, 1) := by decide +kernel
theorem dX10_lateness_20 : decode cX10_lateness 20 = .ok (.aload_n 0, 1) := by decide +kernel
theorem dX10_lateness_21 : decode cX10_lateness 21 = .ok (.bipush 23, 2) := by decide +kernel
theorem dX10_lateness_23 : decode cX10_lateness 23 = .ok (.aload_n 0, 1) := by decide +kernel
theorem dX10_lateness_24 : decode cX10_lateness 24 = .ok (.getfield 63, 3) := by decide +kernel
theorem dX10_lateness_27 : decode cX10_lateness 27 = .ok (.iload_n 2, 1) := by decide +kernel
theorem dX10_lateness_28 : decode cX10_lateness 28 = .ok (.iaload, 1) := by decide +kernel
theorem dX10_lateness_29 : decode cX10_lateness 29 = .ok (.iadd, 1) := by decide +kernel
theorem dX10_lateness_30 : decode cX10_lateness 30 = .ok (.invokevirtual 426, 3) := by decide +kernel
theorem dX10_lateness_33 : decode cX10_lateness 33 = .ok (.isub, 1) := by decide +kernel
theorem dX10_lateness_34 : decode cX10_lateness 34 = .ok (.invokestatic 171, 3) := by decide +kernel
theorem dX10_lateness_37 : decode cX10_lateness 37 = .ok (.iadd, 1) := by decide +kernel
theorem dX10_lateness_38 : decode cX10_lateness 38 = .ok (.istore_n 1, 1) := by decide +kernel
theorem dX10_lateness_39 : decode cX10_lateness 39 = .ok (.iinc 2 1, 3) := by decide +kernel
theorem dX10_lateness_42 : decode cX10_lateness 42 = .ok (.goto (-38), 3) := by decide +kernel
theorem dX10_lateness_45 : decode cX10_lateness 45 = .ok (.iload_n 1, 1) := by decide +kernel
theorem dX10_lateness_46 : decode cX10_lateness 46 = .ok (.ireturn, 1) := by decide +kernel
theorem dX10_findRounds_0 : decode cX10_findRounds 0 = .ok (.aload_n 0, 1) := by decide +kernel
theorem dX10_findRounds_1 : decode cX10_findRounds 1 = .ok (.iconst (-1), 1) := by decide +kernel
theorem dX10_findRounds_2 : decode cX10_findRounds 2 = .ok (.putfield 460, 3) := by decide +kernel
theorem dX10_findRounds_5 : decode cX10_findRounds 5 = .ok (.aload_n 0, 1) := by decide +kernel
theorem dX10_findRounds_6 : decode cX10_findRounds 6 = .ok (.ldc_w 382, 3) := by decide +kernel
theorem dX10_findRounds_9 : decode cX10_findRounds 9 = .ok (.putfield 463, 3) := by decide +kernel
theorem dX10_findRounds_12 : decode cX10_findRounds 12 = .ok (.aload_n 0, 1) := by decide +kernel
theorem dX10_findRounds_13 : decode cX10_findRounds 13 = .ok (.ldc_w 382, 3) := by decide +kernel
theorem dX10_findRounds_16 : decode cX10_findRounds 16 = .ok (.putfield 466, 3) := by decide +kernel
theorem dX10_findRounds_19 : decode cX10_findRounds 19 = .ok (.aload_n 0, 1) := by decide +kernel
theorem dX10_findRounds_20 : decode cX10_findRounds 20 = .ok (.invokevirtual 469, 3) := by decide +kernel
theorem dX10_findRounds_23 : decode cX10_findRounds 23 = .ok (.aload_n 0, 1) := by decide +kernel
theorem dX10_findRounds_24 : decode cX10_findRounds 24 = .ok (.getfield 429, 3) := by decide +kernel
theorem dX10_findRounds_27 : decode cX10_findRounds 27 = .ok (.ifCond .le 7, 3) := by decide +kernel
theorem dX10_findRounds_30 : decode cX10_findRounds 30 = .ok (.iconst 1, 1) := by decide +kernel
theorem dX10_findRounds_31 : decode cX10_findRounds 31 = .ok (.goto 4, 3) := by decide +kernel
theorem dX10_findRounds_34 : decode cX10_findRounds 34 = .ok (.iconst 0, 1) := by decide +kernel
theorem dX10_findRounds_35 : decode cX10_findRounds 35 = .ok (.istore_n 1, 1) := by decide +kernel
theorem dX10_findRounds_36 : decode cX10_findRounds 36 = .ok (.iload_n 1, 1) := by decide +kernel
theorem dX10_findRounds_37 : decode cX10_findRounds 37 = .ok (.ifCond .eq 157, 3) := by decide +kernel
theorem dX10_findRounds_40 : decode cX10_findRounds 40 = .ok (.aload_n 0, 1) := by decide +kernel
theorem dX10_findRounds_41 : decode cX10_findRounds 41 = .ok (.aload_n 0, 1) := by decide +kernel
theorem dX10_findRounds_42 : decode cX10_findRounds 42 = .ok (.getfield 429, 3) := by decide +kernel
theorem dX10_findRounds_45 : decode cX10_findRounds 45 = .ok (.invokevirtual 454, 3) := by decide +kernel
theorem dX10_findRounds_48 : decode cX10_findRounds 48 = .ok (.aload_n 0, 1) := by decide +kernel
theorem dX10_findRounds_49 : decode cX10_findRounds 49 = .ok (.invokevirtual 472, 3) := by decide +kernel
theorem dX10_findRounds_52 : decode cX10_findRounds 52 = .ok (.istore_n 2, 1) := by decide +kernel
theorem dX10_findRounds_53 : decode cX10_findRounds 53 = .ok (.aload_n 0, 1) := by decide +kernel
theorem dX10_findRounds_54 : decode cX10_findRounds 54 = .ok (.getfield 66, 3) := by decide +kernel
theorem dX10_findRounds_57 : decode cX10_findRounds 57 = .ok (.aload_n 0, 1) := by decide +kernel
theorem dX10_findRounds_58 : decode cX10_findRounds 58 = .ok (.getfield 429, 3) := by decide +kernel
theorem dX10_findRounds_61 : decode cX10_findRounds 61 = .ok (.iconst 1, 1) := by decide +kernel
theorem dX10_findRounds_62 : decode cX10_findRounds 62 = .ok (.isub, 1) := by decide +kernel
theorem dX10_findRounds_63 : decode cX10_findRounds 63 = .ok (.iaload, 1) := by decide +kernel
theorem dX10_findRounds_64 : decode cX10_findRounds 64 = .ok (.istore_n 3, 1) := by decide +kernel
theorem dX10_findRounds_65 : decode cX10_findRounds 65 = .ok (.iconst 0, 1) := by decide +kernel
theorem dX10_findRounds_66 : decode cX10_findRounds 66 = .ok (.istore 4, 2) := by decide +kernel
theorem dX10_findRounds_68 : decode cX10_findRounds 68 = .ok (.iload 4, 2) := by decide +kernel
theorem dX10_findRounds_70 : decode cX10_findRounds 70 = .ok (.aload_n 0, 1) := by decide +kernel
theorem dX10_findRounds_71 : decode cX10_findRounds 71 = .ok (.getfield 429, 3) := by decide +kernel
theorem dX10_findRounds_74 : decode cX10_findRounds 74 = .ok (.if_icmp .ge 73, 3) := by decide +kernel
theorem dX10_findRounds_77 : decode cX10_findRounds 77 = .ok (.aload_n 0, 1) := by decide +kernel
theorem dX10_findRounds_78 : decode cX10_findRounds 78 = .ok (.getfield 69, 3) := by decide +kernel
theorem dX10_findRounds_81 : decode cX10_findRounds 81 = .ok (.iload 4, 2) := by decide +kernel
theorem dX10_findRounds_83 : decode cX10_findRounds 83 = .ok (.iload_n 2, 1) := by decide +kernel
theorem dX10_findRounds_84 : decode cX10_findRounds 84 = .ok (.aload_n 0, 1) := by decide +kernel
theorem dX10_findRounds_85 : decode cX10_findRounds 85 = .ok (.getfield 460, 3) := by decide +kernel
theorem dX10_findRounds_88 : decode cX10_findRounds 88 = .ok (.if_icmp .le 13, 3) := by decide +kernel
theorem dX10_findRounds_91 : decode cX10_findRounds 91 = .ok (.aload_n 0, 1) := by decide +kernel
theorem dX10_findRounds_92 : decode cX10_findRounds 92 = .ok (.getfield 63, 3) := by decide +kernel
theorem dX10_findRounds_95 : decode cX10_findRounds 95 = .ok (.iload 4, 2) := by decide +kernel
theorem dX10_findRounds_97 : decode cX10_findRounds 97 = .ok (.iaload, 1) := by decide +kernel
theorem dX10_findRounds_98 : decode cX10_findRounds 98 = .ok (.goto 10, 3) := by decide +kernel
theorem dX10_findRounds_101 : decode cX10_findRounds 101 = .ok (.aload_n 0, 1) := by decide +kernel
theorem dX10_findRounds_102 : decode cX10_findRounds 102 = .ok (.getfield 69, 3) := by decide +kernel
theorem dX10_findRounds_105 : decode cX10_findRounds 105 = .ok (.iload 4, 2) := by decide +kernel
theorem dX10_findRounds_107 : decode cX10_findRounds 107 = .ok (.iaload, 1) := by decide +kernel
theorem dX10_findRounds_108 : decode cX10_findRounds 108 = .ok (.iastore, 1) := by decide +kernel
theorem dX10_findRounds_109 : decode cX10_findRounds 109 = .ok (.aload_n 0, 1) := by decide +kernel
theorem dX10_findRounds_110 : decode cX10_findRounds 110 = .ok (.getfield 72, 3) := by decide +kernel
theorem dX10_findRounds_113 : decode cX10_findRounds 113 = .ok (.iload 4, 2) := by decide +kernel
theorem dX10_findRounds_115 : decode cX10_findRounds 115 = .ok (.iload_n 3, 1) := by decide +kernel
theorem dX10_findRounds_116 : decode cX10_findRounds 116 = .ok (.aload_n 0, 1) := by decide +kernel
theorem dX10_findRounds_117 : decode cX10_findRounds 117 = .ok (.getfield 463, 3) := by decide +kernel
theorem dX10_findRounds_120 : decode cX10_findRounds 120 = .ok (.if_icmp .ge 13, 3) := by decide +kernel
theorem dX10_findRounds_123 : decode cX10_findRounds 123 = .ok (.aload_n 0, 1) := by decide +kernel
theorem dX10_findRounds_124 : decode cX10_findRounds 124 = .ok (.getfield 63, 3) := by decide +kernel
theorem dX10_findRounds_127 : decode cX10_findRounds 127 = .ok (.iload 4, 2) := by decide +kernel
theorem dX10_findRounds_129 : decode cX10_findRounds 129 = .ok (.iaload, 1) := by decide +kernel
theorem dX10_findRounds_130 : decode cX10_findRounds 130 = .ok (.goto 10, 3) := by decide +kernel
theorem dX10_findRounds_133 : decode cX10_findRounds 133 = .ok (.aload_n 0, 1) := by decide +kernel
theorem dX10_findRounds_134 : decode cX10_findRounds 134 = .ok (.getfield 72, 3) := by decide +kernel
theorem dX10_findRounds_137 : decode cX10_findRounds 137 = .ok (.iload 4, 2) := by decide +kernel
theorem dX10_findRounds_139 : decode cX10_findRounds 139 = .ok (.iaload, 1) := by decide +kernel
theorem dX10_findRounds_140 : decode cX10_findRounds 140 = .ok (.iastore, 1) := by decide +kernel
theorem dX10_findRounds_141 : decode cX10_findRounds 141 = .ok (.iinc 4 1, 3) := by decide +kernel
theorem dX10_findRounds_144 : decode cX10_findRounds 144 = .ok (.goto (-76), 3) := by decide +kernel
theorem dX10_findRounds_147 : decode cX10_findRounds 147 = .ok (.aload_n 0, 1) := by decide +kernel
theorem dX10_findRounds_148 : decode cX10_findRounds 148 = .ok (.aload_n 0, 1) := by decide +kernel
theorem dX10_findRounds_149 : decode cX10_findRounds 149 = .ok (.getfield 460, 3) := by decide +kernel
theorem dX10_findRounds_152 : decode cX10_findRounds 152 = .ok (.iload_n 2, 1) := by decide +kernel
theorem dX10_findRounds_153 : decode cX10_findRounds 153 = .ok (.invokestatic 171, 3) := by decide +kernel
theorem dX10_findRounds_156 : decode cX10_findRounds 156 = .ok (.putfield 460, 3) := by decide +kernel
theorem dX10_findRounds_159 : decode cX10_findRounds 159 = .ok (.aload_n 0, 1) := by decide +kernel
theorem dX10_findRounds_160 : decode cX10_findRounds 160 = .ok (.aload_n 0, 1) := by decide +kernel
theorem dX10_findRounds_161 : decode cX10_findRounds 161 = .ok (.getfield 463, 3) := by decide +kernel
theorem dX10_findRounds_164 : decode cX10_findRounds 164 = .ok (.iload_n 3, 1) := by decide +kernel
theorem dX10_findRounds_165 : decode cX10_findRounds 165 = .ok (.invokestatic 326, 3) := by decide +kernel
theorem dX10_findRounds_168 : decode cX10_findRounds 168 = .ok (.putfield 463, 3) := by decide +kernel
theorem dX10_findRounds_171 : decode cX10_findRounds 171 = .ok (.aload_n 0, 1) := by decide +kernel
theorem dX10_findRounds_172 : decode cX10_findRounds 172 = .ok (.aload_n 0, 1) := by decide +kernel
theorem dX10_findRounds_173 : decode cX10_findRounds 173 = .ok (.getfield 466, 3) := by decide +kernel
theorem dX10_findRounds_176 : decode cX10_findRounds 176 = .ok (.aload_n 0, 1) := by decide +kernel
theorem dX10_findRounds_177 : decode cX10_findRounds 177 = .ok (.invokevirtual 475, 3) := by decide +kernel
theorem dX10_findRounds_180 : decode cX10_findRounds 180 = .ok (.invokestatic 326, 3) := by decide +kernel
theorem dX10_findRounds_183 : decode cX10_findRounds 183 = .ok (.putfield 466, 3) := by decide +kernel
theorem dX10_findRounds_186 : decode cX10_findRounds 186 = .ok (.aload_n 0, 1) := by decide +kernel
theorem dX10_findRounds_187 : decode cX10_findRounds 187 = .ok (.invokevirtual 478, 3) := by decide +kernel
theorem dX10_findRounds_190 : decode cX10_findRounds 190 = .ok (.istore_n 1, 1) := by decide +kernel
theorem dX10_findRounds_191 : decode cX10_findRounds 191 = .ok (.goto (-155), 3) := by decide +kernel
theorem dX10_findRounds_194 : decode cX10_findRounds 194 = .ok (.aload_n 0, 1) := by decide +kernel
theorem dX10_findRounds_195 : decode cX10_findRounds 195 = .ok (.aload_n 0, 1) := by decide +kernel
theorem dX10_findRounds_196 : decode cX10_findRounds 196 = .ok (.getfield 460, 3) := by decide +kernel
theorem dX10_findRounds_199 : decode cX10_findRounds 199 = .ok (.iconst 0, 1) := by decide +kernel
theorem dX10_findRounds_200 : decode cX10_findRounds 200 = .ok (.invokestatic 171, 3) := by decide +kernel
theorem dX10_findRounds_203 : decode cX10_findRounds 203 = .ok (.putfield 460, 3) := by decide +kernel
theorem dX10_findRounds_206 : decode cX10_findRounds 206 = .ok (.return_, 1) := by decide +kernel
theorem dX10_guild_0 : decode cX10_guild 0 = .ok (.iconst 0, 1) := by decide +kernel
theorem dX10_guild_1 : decode cX10_guild 1 = .ok (.istore_n 1, 1) := by decide +kernel
theorem dX10_guild_2 : decode cX10_guild 2 = .ok (.iload_n 1, 1) := by decide +kernel
theorem dX10_guild_3 : decode cX10_guild 3 = .ok (.aload_n 0, 1) := by decide +kernel
theorem dX10_guild_4 : decode cX10_guild 4 = .ok (.getfield 429, 3) := by decide +kernel
theorem dX10_guild_7 : decode cX10_guild 7 = .ok (.if_icmp .ge 85, 3) := by decide +kernel
theorem dX10_guild_10 : decode cX10_guild 10 = .ok (.iconst 0, 1) := by decide +kernel
theorem dX10_guild_11 : decode cX10_guild 11 = .ok (.istore_n 2, 1) := by decide +kernel
theorem dX10_guild_12 : decode cX10_guild 12 = .ok (.iconst 0, 1) := by decide +kernel
theorem dX10_guild_13 : decode cX10_guild 13 = .ok (.istore_n 3, 1) := by decide +kernel
theorem dX10_guild_14 : decode cX10_guild 14 = .ok (.iload_n 3, 1) := by decide +kernel
theorem dX10_guild_15 : decode cX10_guild 15 = .ok (.aload_n 0, 1) := by decide +kernel
theorem dX10_guild_16 : decode cX10_guild 16 = .ok (.getfield 429, 3) := by decide +kernel
theorem dX10_guild_19 : decode cX10_guild 19 = .ok (.if_icmp .ge 60, 3) := by decide +kernel
theorem dX10_guild_22 : decode cX10_guild 22 = .ok (.iload_n 2, 1) := by decide +kernel
theorem dX10_guild_23 : decode cX10_guild 23 = .ok (.aload_n 0, 1) := by decide +kernel
theorem dX10_guild_24 : decode cX10_guild 24 = .ok (.bipush 23, 2) := by decide +kernel
theorem dX10_guild_26 : decode cX10_guild 26 = .ok (.iload_n 3, 1) := by decide +kernel
theorem dX10_guild_27 : decode cX10_guild 27 = .ok (.iadd, 1) := by decide +kernel
theorem dX10_guild_28 : decode cX10_guild 28 = .ok (.invokevirtual 426, 3) := by decide +kernel
theorem dX10_guild_31 : decode cX10_guild 31 = .ok (.aload_n 0, 1) := by decide +kernel
theorem dX10_guild_32 : decode cX10_guild 32 = .ok (.bipush 23, 2) := by decide +kernel
theorem dX10_guild_34 : decode cX10_guild 34 = .ok (.iload_n 1, 1) := by decide +kernel
theorem dX10_guild_35 : decode cX10_guild 35 = .ok (.iadd, 1) := by decide +kernel
theorem dX10_guild_36 : decode cX10_guild 36 = .ok (.invokevirtual 426, 3) := by decide +kernel
theorem dX10_guild_39 : decode cX10_guild 39 = .ok (.if_icmp .lt 27, 3) := by decide +kernel
theorem dX10_guild_42 : decode cX10_guild 42 = .ok (.aload_n 0, 1) := by decide +kernel
theorem dX10_guild_43 : decode cX10_guild 43 = .ok (.bipush 23, 2) := by decide +kernel
theorem dX10_guild_45 : decode cX10_guild 45 = .ok (.iload_n 3, 1) := by decide +kernel
theorem dX10_guild_46 : decode cX10_guild 46 = .ok (.iadd, 1) := by decide +kernel
theorem dX10_guild_47 : decode cX10_guild 47 = .ok (.invokevirtual 426, 3) := by decide +kernel
theorem dX10_guild_50 : decode cX10_guild 50 = .ok (.aload_n 0, 1) := by decide +kernel
theorem dX10_guild_51 : decode cX10_guild 51 = .ok (.bipush 23, 2) := by decide +kernel
theorem dX10_guild_53 : decode cX10_guild 53 = .ok (.iload_n 1, 1) := by decide +kernel
theorem dX10_guild_54 : decode cX10_guild 54 = .ok (.iadd, 1) := by decide +kernel
theorem dX10_guild_55 : decode cX10_guild 55 = .ok (.invokevirtual 426, 3) := by decide +kernel
theorem dX10_guild_58 : decode cX10_guild 58 = .ok (.if_icmp .ne 12, 3) := by decide +kernel
theorem dX10_guild_61 : decode cX10_guild 61 = .ok (.iload_n 3, 1) := by decide +kernel
theorem dX10_guild_62 : decode cX10_guild 62 = .ok (.iload_n 1, 1) := by decide +kernel
theorem dX10_guild_63 : decode cX10_guild 63 = .ok (.if_icmp .ge 7, 3) := by decide +kernel
theorem dX10_guild_66 : decode cX10_guild 66 = .ok (.iconst 1, 1) := by decide +kernel
theorem dX10_guild_67 : decode cX10_guild 67 = .ok (.goto 4, 3) := by decide +kernel
theorem dX10_guild_70 : decode cX10_guild 70 = .ok (.iconst 0, 1) := by decide +kernel
theorem dX10_guild_71 : decode cX10_guild 71 = .ok (.iadd, 1) := by decide +kernel
theorem dX10_guild_72 : decode cX10_guild 72 = .ok (.istore_n 2, 1) := by decide +kernel
theorem dX10_guild_73 : decode cX10_guild 73 = .ok (.iinc 3 1, 3) := by decide +kernel
theorem dX10_guild_76 : decode cX10_guild 76 = .ok (.goto (-62), 3) := by decide +kernel
theorem dX10_guild_79 : decode cX10_guild 79 = .ok (.aload_n 0, 1) := by decide +kernel
theorem dX10_guild_80 : decode cX10_guild 80 = .ok (.getfield 63, 3) := by decide +kernel
theorem dX10_guild_83 : decode cX10_guild 83 = .ok (.iload_n 2, 1) := by decide +kernel
theorem dX10_guild_84 : decode cX10_guild 84 = .ok (.iload_n 1, 1) := by decide +kernel
theorem dX10_guild_85 : decode cX10_guild 85 = .ok (.iastore, 1) := by decide +kernel
theorem dX10_guild_86 : decode cX10_guild 86 = .ok (.iinc 1 1, 3) := by decide +kernel
theorem dX10_guild_89 : decode cX10_guild 89 = .ok (.goto (-87), 3) := by decide +kernel
theorem dX10_guild_92 : decode cX10_guild 92 = .ok (.aload_n 0, 1) := by decide +kernel
theorem dX10_guild_93 : decode cX10_guild 93 = .ok (.aload_n 0, 1) := by decide +kernel
theorem dX10_guild_94 : decode cX10_guild 94 = .ok (.getfield 429, 3) := by decide +kernel
theorem dX10_guild_97 : decode cX10_guild 97 = .ok (.invokevirtual 454, 3) := by decide +kernel
theorem dX10_guild_100 : decode cX10_guild 100 = .ok (.aload_n 0, 1) := by decide +kernel
theorem dX10_guild_101 : decode cX10_guild 101 = .ok (.invokevirtual 475, 3) := by decide +kernel
theorem dX10_guild_104 : decode cX10_guild 104 = .ok (.ireturn, 1) := by decide +kernel
theorem dX10_rounds_0 : decode cX10_rounds 0 = .ok (.aload_n 0, 1) := by decide +kernel
theorem dX10_rounds_1 : decode cX10_rounds 1 = .ok (.iconst 0, 1) := by decide +kernel
theorem dX10_rounds_2 : decode cX10_rounds 2 = .ok (.putfield 94, 3) := by decide +kernel
theorem dX10_rounds_5 : decode cX10_rounds 5 = .ok (.aload_n 0, 1) := by decide +kernel
theorem dX10_rounds_6 : decode cX10_rounds 6 = .ok (.iload_n 1, 1) := by decide +kernel
theorem dX10_rounds_7 : decode cX10_rounds 7 = .ok (.invokevirtual 438, 3) := by decide +kernel
theorem dX10_rounds_10 : decode cX10_rounds 10 = .ok (.ifCond .ne 5, 3) := by decide +kernel
theorem dX10_rounds_13 : decode cX10_rounds 13 = .ok (.iconst (-1), 1) := by decide +kernel
theorem dX10_rounds_14 : decode cX10_rounds 14 = .ok (.ireturn, 1) := by decide +kernel
theorem dX10_rounds_15 : decode cX10_rounds 15 = .ok (.aload_n 0, 1) := by decide +kernel
theorem dX10_rounds_16 : decode cX10_rounds 16 = .ok (.invokevirtual 481, 3) := by decide +kernel
theorem dX10_rounds_19 : decode cX10_rounds 19 = .ok (.iload_n 2, 1) := by decide +kernel
theorem dX10_rounds_20 : decode cX10_rounds 20 = .ok (.ifCond .ne 8, 3) := by decide +kernel
theorem dX10_rounds_23 : decode cX10_rounds 23 = .ok (.aload_n 0, 1) := by decide +kernel
theorem dX10_rounds_24 : decode cX10_rounds 24 = .ok (.getfield 460, 3) := by decide +kernel
theorem dX10_rounds_27 : decode cX10_rounds 27 = .ok (.ireturn, 1) := by decide +kernel
theorem dX10_rounds_28 : decode cX10_rounds 28 = .ok (.aload_n 0, 1) := by decide +kernel
theorem dX10_rounds_29 : decode cX10_rounds 29 = .ok (.getfield 429, 3) := by decide +kernel
theorem dX10_rounds_32 : decode cX10_rounds 32 = .ok (.ifCond .ne 5, 3) := by decide +kernel
theorem dX10_rounds_35 : decode cX10_rounds 35 = .ok (.iconst (-1), 1) := by decide +kernel
theorem dX10_rounds_36 : decode cX10_rounds 36 = .ok (.ireturn, 1) := by decide +kernel
theorem dX10_rounds_37 : decode cX10_rounds 37 = .ok (.iload_n 2, 1) := by decide +kernel
theorem dX10_rounds_38 : decode cX10_rounds 38 = .ok (.bipush 10, 2) := by decide +kernel
theorem dX10_rounds_40 : decode cX10_rounds 40 = .ok (.bipush 9, 2) := by decide +kernel
theorem dX10_rounds_42 : decode cX10_rounds 42 = .ok (.aload_n 0, 1) := by decide +kernel
theorem dX10_rounds_43 : decode cX10_rounds 43 = .ok (.getfield 460, 3) := by decide +kernel
theorem dX10_rounds_46 : decode cX10_rounds 46 = .ok (.iadd, 1) := by decide +kernel
theorem dX10_rounds_47 : decode cX10_rounds 47 = .ok (.invokestatic 106, 3) := by decide +kernel
theorem dX10_rounds_50 : decode cX10_rounds 50 = .ok (.ifCond .eq 13, 3) := by decide +kernel
theorem dX10_rounds_53 : decode cX10_rounds 53 = .ok (.aload_n 0, 1) := by decide +kernel
theorem dX10_rounds_54 : decode cX10_rounds 54 = .ok (.getfield 69, 3) := by decide +kernel
theorem dX10_rounds_57 : decode cX10_rounds 57 = .ok (.iload_n 2, 1) := by decide +kernel
theorem dX10_rounds_58 : decode cX10_rounds 58 = .ok (.bipush 10, 2) := by decide +kernel
theorem dX10_rounds_60 : decode cX10_rounds 60 = .ok (.isub, 1) := by decide +kernel
theorem dX10_rounds_61 : decode cX10_rounds 61 = .ok (.iaload, 1) := by decide +kernel
theorem dX10_rounds_62 : decode cX10_rounds 62 = .ok (.ireturn, 1) := by decide +kernel
theorem dX10_rounds_63 : decode cX10_rounds 63 = .ok (.iload_n 2, 1) := by decide +kernel
theorem dX10_rounds_64 : decode cX10_rounds 64 = .ok (.bipush 20, 2) := by decide +kernel
theorem dX10_rounds_66 : decode cX10_rounds 66 = .ok (.bipush 19, 2) := by decide +kernel
theorem dX10_rounds_68 : decode cX10_rounds 68 = .ok (.aload_n 0, 1) := by decide +kernel
theorem dX10_rounds_69 : decode cX10_rounds 69 = .ok (.getfield 429, 3) := by decide +kernel
theorem dX10_rounds_72 : decode cX10_rounds 72 = .ok (.iadd, 1) := by decide +kernel
theorem dX10_rounds_73 : decode cX10_rounds 73 = .ok (.invokestatic 106, 3) := by decide +kernel
theorem dX10_rounds_76 : decode cX10_rounds 76 = .ok (.ifCond .eq 13, 3) := by decide +kernel
theorem dX10_rounds_79 : decode cX10_rounds 79 = .ok (.aload_n 0, 1) := by decide +kernel
theorem dX10_rounds_80 : decode cX10_rounds 80 = .ok (.getfield 72, 3) := by decide +kernel
theorem dX10_rounds_83 : decode cX10_rounds 83 = .ok (.iload_n 2, 1) := by decide +kernel
theorem dX10_rounds_84 : decode cX10_rounds 84 = .ok (.bipush 20, 2) := by decide +kernel
theorem dX10_rounds_86 : decode cX10_rounds 86 = .ok (.isub, 1) := by decide +kernel
theorem dX10_rounds_87 : decode cX10_rounds 87 = .ok (.iaload, 1) := by decide +kernel
theorem dX10_rounds_88 : decode cX10_rounds 88 = .ok (.ireturn, 1) := by decide +kernel
theorem dX10_rounds_89 : decode cX10_rounds 89 = .ok (.iload_n 2, 1) := by decide +kernel
theorem dX10_rounds_90 : decode cX10_rounds 90 = .ok (.iconst 1, 1) := by decide +kernel
theorem dX10_rounds_91 : decode cX10_rounds 91 = .ok (.if_icmp .ne 10, 3) := by decide +kernel
theorem dX10_rounds_94 : decode cX10_rounds 94 = .ok (.aload_n 0, 1) := by decide +kernel
theorem dX10_rounds_95 : decode cX10_rounds 95 = .ok (.getfield 463, 3) := by decide +kernel
theorem dX10_rounds_98 : decode cX10_rounds 98 = .ok (.goto 28, 3) := by decide +kernel
theorem dX10_rounds_101 : decode cX10_rounds 101 = .ok (.iload_n 2, 1) := by decide +kernel
theorem dX10_rounds_102 : decode cX10_rounds 102 = .ok (.iconst 2, 1) := by decide +kernel
theorem dX10_rounds_103 : decode cX10_rounds 103 = .ok (.if_icmp .ne 10, 3) := by decide +kernel
theorem dX10_rounds_106 : decode cX10_rounds 106 = .ok (.aload_n 0, 1) := by decide +kernel
theorem dX10_rounds_107 : decode cX10_rounds 107 = .ok (.getfield 466, 3) := by decide +kernel
theorem dX10_rounds_110 : decode cX10_rounds 110 = .ok (.goto 16, 3) := by decide +kernel
theorem dX10_rounds_113 : decode cX10_rounds 113 = .ok (.iload_n 2, 1) := by decide +kernel
theorem dX10_rounds_114 : decode cX10_rounds 114 = .ok (.iconst 3, 1) := by decide +kernel
theorem dX10_rounds_115 : decode cX10_rounds 115 = .ok (.if_icmp .ne 10, 3) := by decide +kernel
theorem dX10_rounds_118 : decode cX10_rounds 118 = .ok (.aload_n 0, 1) := by decide +kernel
theorem dX10_rounds_119 : decode cX10_rounds 119 = .ok (.invokevirtual 484, 3) := by decide +kernel
theorem dX10_rounds_122 : decode cX10_rounds 122 = .ok (.goto 4, 3) := by decide +kernel
theorem dX10_rounds_125 : decode cX10_rounds 125 = .ok (.iconst (-1), 1) := by decide +kernel
theorem dX10_rounds_126 : decode cX10_rounds 126 = .ok (.ireturn, 1) := by decide +kernel
theorem dX10_common_0 : decode cX10_common 0 = .ok (.lload_n 0, 1) := by decide +kernel
theorem dX10_common_1 : decode cX10_common 1 = .ok (.lstore 4, 2) := by decide +kernel
theorem dX10_common_3 : decode cX10_common 3 = .ok (.lload_n 2, 1) := by decide +kernel
theorem dX10_common_4 : decode cX10_common 4 = .ok (.lstore 6, 2) := by decide +kernel
theorem dX10_common_6 : decode cX10_common 6 = .ok (.lload 6, 2) := by decide +kernel
theorem dX10_common_8 : decode cX10_common 8 = .ok (.lconst 0, 1) := by decide +kernel
theorem dX10_common_9 : decode cX10_common 9 = .ok (.lcmp, 1) := by decide +kernel
theorem dX10_common_10 : decode cX10_common 10 = .ok (.ifCond .eq 21, 3) := by decide +kernel
theorem dX10_common_13 : decode cX10_common 13 = .ok (.lload 4, 2) := by decide +kernel
theorem dX10_common_15 : decode cX10_common 15 = .ok (.lload 6, 2) := by decide +kernel
theorem dX10_common_17 : decode cX10_common 17 = .ok (.lrem, 1) := by decide +kernel
theorem dX10_common_18 : decode cX10_common 18 = .ok (.lstore 8, 2) := by decide +kernel
theorem dX10_common_20 : decode cX10_common 20 = .ok (.lload 6, 2) := by decide +kernel
theorem dX10_common_22 : decode cX10_common 22 = .ok (.lstore 4, 2) := by decide +kernel
theorem dX10_common_24 : decode cX10_common 24 = .ok (.lload 8, 2) := by decide +kernel
theorem dX10_common_26 : decode cX10_common 26 = .ok (.lstore 6, 2) := by decide +kernel
theorem dX10_common_28 : decode cX10_common 28 = .ok (.goto (-22), 3) := by decide +kernel
theorem dX10_common_31 : decode cX10_common 31 = .ok (.lload 4, 2) := by decide +kernel
theorem dX10_common_33 : decode cX10_common 33 = .ok (.lreturn, 1) := by decide +kernel
theorem dX10_tens_0 : decode cX10_tens 0 = .ok (.lconst 1, 1) := by decide +kernel
theorem dX10_tens_1 : decode cX10_tens 1 = .ok (.lstore_n 1, 1) := by decide +kernel
theorem dX10_tens_2 : decode cX10_tens 2 = .ok (.iconst 0, 1) := by decide +kernel
theorem dX10_tens_3 : decode cX10_tens 3 = .ok (.istore_n 3, 1) := by decide +kernel
theorem dX10_tens_4 : decode cX10_tens 4 = .ok (.iload_n 3, 1) := by decide +kernel
theorem dX10_tens_5 : decode cX10_tens 5 = .ok (.iload_n 0, 1) := by decide +kernel
theorem dX10_tens_6 : decode cX10_tens 6 = .ok (.if_icmp .ge 15, 3) := by decide +kernel
theorem dX10_tens_9 : decode cX10_tens 9 = .ok (.lload_n 1, 1) := by decide +kernel
theorem dX10_tens_10 : decode cX10_tens 10 = .ok (.ldc2_w 487, 3) := by decide +kernel
theorem dX10_tens_13 : decode cX10_tens 13 = .ok (.lmul, 1) := by decide +kernel
theorem dX10_tens_14 : decode cX10_tens 14 = .ok (.lstore_n 1, 1) := by decide +kernel
theorem dX10_tens_15 : decode cX10_tens 15 = .ok (.iinc 3 1, 3) := by decide +kernel
theorem dX10_tens_18 : decode cX10_tens 18 = .ok (.goto (-14), 3) := by decide +kernel
theorem dX10_tens_21 : decode cX10_tens 21 = .ok (.lload_n 1, 1) := by decide +kernel
theorem dX10_tens_22 : decode cX10_tens 22 = .ok (.lreturn, 1) := by decide +kernel
theorem dX10_just_0 : decode cX10_just 0 = .ok (.lconst 1, 1) := by decide +kernel
theorem dX10_just_1 : decode cX10_just 1 = .ok (.lstore_n 3, 1) := by decide +kernel
theorem dX10_just_2 : decode cX10_just 2 = .ok (.iconst 1, 1) := by decide +kernel
theorem dX10_just_3 : decode cX10_just 3 = .ok (.istore 5, 2) := by decide +kernel
theorem dX10_just_5 : decode cX10_just 5 = .ok (.iload 5, 2) := by decide +kernel
theorem dX10_just_7 : decode cX10_just 7 = .ok (.iload_n 1, 1) := by decide +kernel
theorem dX10_just_8 : decode cX10_just 8 = .ok (.if_icmp .gt 23, 3) := by decide +kernel
theorem dX10_just_11 : decode cX10_just 11 = .ok (.lload_n 3, 1) := by decide +kernel
theorem dX10_just_12 : decode cX10_just 12 = .ok (.iload_n 0, 1) := by decide +kernel
theorem dX10_just_13 : decode cX10_just 13 = .ok (.iload_n 1, 1) := by decide +kernel
theorem dX10_just_14 : decode cX10_just 14 = .ok (.isub, 1) := by decide +kernel
theorem dX10_just_15 : decode cX10_just 15 = .ok (.iload 5, 2) := by decide +kernel
theorem dX10_just_17 : decode cX10_just 17 = .ok (.iadd, 1) := by decide +kernel
theorem dX10_just_18 : decode cX10_just 18 = .ok (.i2l, 1) := by decide +kernel
theorem dX10_just_19 : decode cX10_just 19 = .ok (.lmul, 1) := by decide +kernel
theorem dX10_just_20 : decode cX10_just 20 = .ok (.iload 5, 2) := by decide +kernel
theorem dX10_just_22 : decode cX10_just 22 = .ok (.i2l, 1) := by decide +kernel
theorem dX10_just_23 : decode cX10_just 23 = .ok (.ldiv, 1) := by decide +kernel
theorem dX10_just_24 : decode cX10_just 24 = .ok (.lstore_n 3, 1) := by decide +kernel
theorem dX10_just_25 : decode cX10_just 25 = .ok (.iinc 5 1, 3) := by decide +kernel
theorem dX10_just_28 : decode cX10_just 28 = .ok (.goto (-23), 3) := by decide +kernel
theorem dX10_just_31 : decode cX10_just 31 = .ok (.iconst 0, 1) := by decide +kernel
theorem dX10_just_32 : decode cX10_just 32 = .ok (.istore 5, 2) := by decide +kernel
theorem dX10_just_34 : decode cX10_just 34 = .ok (.iload 5, 2) := by decide +kernel
theorem dX10_just_36 : decode cX10_just 36 = .ok (.iload_n 0, 1) := by decide +kernel
theorem dX10_just_37 : decode cX10_just 37 = .ok (.if_icmp .ge 28, 3) := by decide +kernel
theorem dX10_just_40 : decode cX10_just 40 = .ok (.lload_n 3, 1) := by decide +kernel
theorem dX10_just_41 : decode cX10_just 41 = .ok (.iload 5, 2) := by decide +kernel
theorem dX10_just_43 : decode cX10_just 43 = .ok (.iload_n 1, 1) := by decide +kernel
theorem dX10_just_44 : decode cX10_just 44 = .ok (.if_icmp .ge 8, 3) := by decide +kernel
theorem dX10_just_47 : decode cX10_just 47 = .ok (.iload_n 2, 1) := by decide +kernel
theorem dX10_just_48 : decode cX10_just 48 = .ok (.i2l, 1) := by decide +kernel
theorem dX10_just_49 : decode cX10_just 49 = .ok (.goto 8, 3) := by decide +kernel
theorem dX10_just_52 : decode cX10_just 52 = .ok (.bipush 10, 2) := by decide +kernel
theorem dX10_just_54 : decode cX10_just 54 = .ok (.iload_n 2, 1) := by decide +kernel
theorem dX10_just_55 : decode cX10_just 55 = .ok (.isub, 1) := by decide +kernel
theorem dX10_just_56 : decode cX10_just 56 = .ok (.i2l, 1) := by decide +kernel
theorem dX10_just_57 : decode cX10_just 57 = .ok (.lmul, 1) := by decide +kernel
theorem dX10_just_58 : decode cX10_just 58 = .ok (.lstore_n 3, 1) := by decide +kernel
theorem dX10_just_59 : decode cX10_just 59 = .ok (.iinc 5 1, 3) := by decide +kernel
theorem dX10_just_62 : decode cX10_just 62 = .ok (.goto (-28), 3) := by decide +kernel
theorem dX10_just_65 : decode cX10_just 65 = .ok (.lload_n 3, 1) := by decide +kernel
theorem dX10_just_66 : decode cX10_just 66 = .ok (.lreturn, 1) := by decide +kernel
theorem dX10_costs_0 : decode cX10_costs 0 = .ok (.iload_n 2, 1) := by decide +kernel
theorem dX10_costs_1 : decode cX10_costs 1 = .ok (.iload 4, 2) := by decide +kernel
theorem dX10_costs_3 : decode cX10_costs 3 = .ok (.imul, 1) := by decide +kernel
theorem dX10_costs_4 : decode cX10_costs 4 = .ok (.i2l, 1) := by decide +kernel
theorem dX10_costs_5 : decode cX10_costs 5 = .ok (.iload_n 0, 1) := by decide +kernel
theorem dX10_costs_6 : decode cX10_costs 6 = .ok (.invokestatic 489, 3) := by decide +kernel
theorem dX10_costs_9 : decode cX10_costs 9 = .ok (.lmul, 1) := by decide +kernel
theorem dX10_costs_10 : decode cX10_costs 10 = .ok (.lstore 5, 2) := by decide +kernel
theorem dX10_costs_12 : decode cX10_costs 12 = .ok (.iload 4, 2) := by decide +kernel
theorem dX10_costs_14 : decode cX10_costs 14 = .ok (.iconst 1, 1) := by decide +kernel
theorem dX10_costs_15 : decode cX10_costs 15 = .ok (.iadd, 1) := by decide +kernel
theorem dX10_costs_16 : decode cX10_costs 16 = .ok (.istore 7, 2) := by decide +kernel
theorem dX10_costs_18 : decode cX10_costs 18 = .ok (.iload 7, 2) := by decide +kernel
theorem dX10_costs_20 : decode cX10_costs 20 = .ok (.iload_n 0, 1) := by decide +kernel
theorem dX10_costs_21 : decode cX10_costs 21 = .ok (.if_icmp .gt 31, 3) := by decide +kernel
theorem dX10_costs_24 : decode cX10_costs 24 = .ok (.lload 5, 2) := by decide +kernel
theorem dX10_costs_26 : decode cX10_costs 26 = .ok (.iload_n 3, 1) := by decide +kernel
theorem dX10_costs_27 : decode cX10_costs 27 = .ok (.i2l, 1) := by decide +kernel
theorem dX10_costs_28 : decode cX10_costs 28 = .ok (.iload 7, 2) := by decide +kernel
theorem dX10_costs_30 : decode cX10_costs 30 = .ok (.iload 4, 2) := by decide +kernel
theorem dX10_costs_32 : decode cX10_costs 32 = .ok (.isub, 1) := by decide +kernel
theorem dX10_costs_33 : decode cX10_costs 33 = .ok (.i2l, 1) := by decide +kernel
theorem dX10_costs_34 : decode cX10_costs 34 = .ok (.lmul, 1) := by decide +kernel
theorem dX10_costs_35 : decode cX10_costs 35 = .ok (.iload_n 0, 1) := by decide +kernel
theorem dX10_costs_36 : decode cX10_costs 36 = .ok (.iload 7, 2) := by decide +kernel
theorem dX10_costs_38 : decode cX10_costs 38 = .ok (.iload_n 1, 1) := by decide +kernel
theorem dX10_costs_39 : decode cX10_costs 39 = .ok (.invokestatic 493, 3) := by decide +kernel
theorem dX10_costs_42 : decode cX10_costs 42 = .ok (.lmul, 1) := by decide +kernel
theorem dX10_costs_43 : decode cX10_costs 43 = .ok (.ladd, 1) := by decide +kernel
theorem dX10_costs_44 : decode cX10_costs 44 = .ok (.lstore 5, 2) := by decide +kernel
theorem dX10_costs_46 : decode cX10_costs 46 = .ok (.iinc 7 1, 3) := by decide +kernel
theorem dX10_costs_49 : decode cX10_costs 49 = .ok (.goto (-31), 3) := by decide +kernel
theorem dX10_costs_52 : decode cX10_costs 52 = .ok (.lload 5, 2) := by decide +kernel
theorem dX10_costs_54 : decode cX10_costs 54 = .ok (.lreturn, 1) := by decide +kernel
theorem dX10_cloth_0 : decode cX10_cloth 0 = .ok (.aload_n 0, 1) := by decide +kernel
theorem dX10_cloth_1 : decode cX10_cloth 1 = .ok (.iconst 0, 1) := by decide +kernel
theorem dX10_cloth_2 : decode cX10_cloth 2 = .ok (.putfield 94, 3) := by decide +kernel
theorem dX10_cloth_5 : decode cX10_cloth 5 = .ok (.iload_n 1, 1) := by decide +kernel
theorem dX10_cloth_6 : decode cX10_cloth 6 = .ok (.iconst 1, 1) := by decide +kernel
theorem dX10_cloth_7 : decode cX10_cloth 7 = .ok (.bipush 12, 2) := by decide +kernel
theorem dX10_cloth_9 : decode cX10_cloth 9 = .ok (.invokestatic 106, 3) := by decide +kernel
theorem dX10_cloth_12 : decode cX10_cloth 12 = .ok (.ifCond .eq 44, 3) := by decide +kernel
theorem dX10_cloth_15 : decode cX10_cloth 15 = .ok (.iload_n 2, 1) := by decide +kernel
theorem dX10_cloth_16 : decode cX10_cloth 16 = .ok (.iconst 0, 1) := by decide +kernel
theorem dX10_cloth_17 : decode cX10_cloth 17 = .ok (.bipush 10, 2) := by decide +kernel
theorem dX10_cloth_19 : decode cX10_cloth 19 = .ok (.invokestatic 106, 3) := by decide +kernel
theorem dX10_cloth_22 : decode cX10_cloth 22 = .ok (.ifCond .eq 34, 3) := by decide +kernel
theorem dX10_cloth_25 : decode cX10_cloth 25 = .ok (.iload_n 3, 1) := by decide +kernel
theorem dX10_cloth_26 : decode cX10_cloth 26 = .ok (.iconst 0, 1) := by decide +kernel
theorem dX10_cloth_27 : decode cX10_cloth 27 = .ok (.bipush 99, 2) := by decide +kernel
theorem dX10_cloth_29 : decode cX10_cloth 29 = .ok (.invokestatic 106, 3) := by decide +kernel
theorem dX10_cloth_32 : decode cX10_cloth 32 = .ok (.ifCond .eq 24, 3) := by decide +kernel
theorem dX10_cloth_35 : decode cX10_cloth 35 = .ok (.iload 4, 2) := by decide +kernel
theorem dX10_cloth_37 : decode cX10_cloth 37 = .ok (.iconst 0, 1) := by decide +kernel
theorem dX10_cloth_38 : decode cX10_cloth 38 = .ok (.bipush 99, 2) := by decide +kernel
theorem dX10_cloth_40 : decode cX10_cloth 40 = .ok (.invokestatic 106, 3) := by decide +kernel
theorem dX10_cloth_43 : decode cX10_cloth 43 = .ok (.ifCond .eq 13, 3) := by decide +kernel
theorem dX10_cloth_46 : decode cX10_cloth 46 = .ok (.iload 5, 2) := by decide +kernel
theorem dX10_cloth_48 : decode cX10_cloth 48 = .ok (.iconst 0, 1) := by decide +kernel
theorem dX10_cloth_49 : decode cX10_cloth 49 = .ok (.iconst 2, 1) := by decide +kernel
theorem dX10_cloth_50 : decode cX10_cloth 50 = .ok (.invokestatic 106, 3) := by decide +kernel
theorem dX10_cloth_53 : decode cX10_cloth 53 = .ok (.ifCond .ne 7, 3) := by decide +kernel
theorem dX10_cloth_56 : decode cX10_cloth 56 = .ok (.ldc2_w 368, 3) := by decide +kernel
theorem dX10_cloth_59 : decode cX10_cloth 59 = .ok (.lreturn, 1) := by decide +kernel
theorem dX10_cloth_60 : decode cX10_cloth 60 = .ok (.iconst 0, 1) := by decide +kernel
theorem dX10_cloth_61 : decode cX10_cloth 61 = .ok (.istore 6, 2) := by decide +kernel
theorem dX10_cloth_63 : decode cX10_cloth 63 = .ok (.iconst 1, 1) := by decide +kernel
theorem dX10_cloth_64 : decode cX10_cloth 64 = .ok (.istore 7, 2) := by decide +kernel
theorem dX10_cloth_66 : decode cX10_cloth 66 = .ok (.iload 7, 2) := by decide +kernel
theorem dX10_cloth_68 : decode cX10_cloth 68 = .ok (.iload_n 1, 1) := by decide +kernel
theorem dX10_cloth_69 : decode cX10_cloth 69 = .ok (.if_icmp .gt 42, 3) := by decide +kernel
theorem dX10_cloth_72 : decode cX10_cloth 72 = .ok (.iload_n 1, 1) := by decide +kernel
theorem dX10_cloth_73 : decode cX10_cloth 73 = .ok (.iload_n 2, 1) := by decide +kernel
theorem dX10_cloth_74 : decode cX10_cloth 74 = .ok (.iload_n 3, 1) := by decide +kernel
theorem dX10_cloth_75 : decode cX10_cloth 75 = .ok (.iload 4, 2) := by decide +kernel
theorem dX10_cloth_77 : decode cX10_cloth 77 = .ok (.iload 7, 2) := by decide +kernel
theorem dX10_cloth_79 : decode cX10_cloth 79 = .ok (.invokestatic 497, 3) := by decide +kernel
theorem dX10_cloth_82 : decode cX10_cloth 82 = .ok (.iload_n 1, 1) := by decide +kernel
theorem dX10_cloth_83 : decode cX10_cloth 83 = .ok (.iload_n 2, 1) := by decide +kernel
theorem dX10_cloth_84 : decode cX10_cloth 84 = .ok (.iload_n 3, 1) := by decide +kernel
theorem dX10_cloth_85 : decode cX10_cloth 85 = .ok (.iload 4, 2) := by decide +kernel
theorem dX10_cloth_87 : decode cX10_cloth 87 = .ok (.iload 6, 2) := by decide +kernel
theorem dX10_cloth_89 : decode cX10_cloth 89 = .ok (.invokestatic 497, 3) := by decide +kernel
theorem dX10_cloth_92 : decode cX10_cloth 92 = .ok (.lcmp, 1) := by decide +kernel
theorem dX10_cloth_93 : decode cX10_cloth 93 = .ok (.ifCond .ge 8, 3) := by decide +kernel
theorem dX10_cloth_96 : decode cX10_cloth 96 = .ok (.iload 7, 2) := by decide +kernel
theorem dX10_cloth_98 : decode cX10_cloth 98 = .ok (.goto 5, 3) := by decide +kernel
theorem dX10_cloth_101 : decode cX10_cloth 101 = .ok (.iload 6, 2) := by decide +kernel
theorem dX10_cloth_103 : decode cX10_cloth 103 = .ok (.istore 6, 2) := by decide +kernel
theorem dX10_cloth_105 : decode cX10_cloth 105 = .ok (.iinc 7 1, 3) := by decide +kernel
theorem dX10_cloth_108 : decode cX10_cloth 108 = .ok (.goto (-42), 3) := by decide +kernel
theorem dX10_cloth_111 : decode cX10_cloth 111 = .ok (.iload_n 1, 1) := by decide +kernel
theorem dX10_cloth_112 : decode cX10_cloth 112 = .ok (.invokestatic 489, 3) := by decide +kernel
theorem dX10_cloth_115 : decode cX10_cloth 115 = .ok (.iload_n 1, 1) := by decide +kernel
theorem dX10_cloth_116 : decode cX10_cloth 116 = .ok (.iload_n 2, 1) := by decide +kernel
