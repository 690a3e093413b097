theorem dX10_init_0 : decode cX10_init 0 = .ok (.aload_n 0, 1) := by decide +kernel
theorem dX10_init_1 : decode cX10_init 1 = .ok (.invokespecial 1, 3) := by decide +kernel
theorem dX10_init_4 : decode cX10_init 4 = .ok (.aload_n 0, 1) := by decide +kernel
theorem dX10_init_5 : decode cX10_init 5 = .ok (.iconst 4, 1) := by decide +kernel
theorem dX10_init_6 : decode cX10_init 6 = .ok (.newarray .int, 2) := by decide +kernel
theorem dX10_init_8 : decode cX10_init 8 = .ok (.putfield 7, 3) := by decide +kernel
theorem dX10_init_11 : decode cX10_init 11 = .ok (.aload_n 0, 1) := by decide +kernel
theorem dX10_init_12 : decode cX10_init 12 = .ok (.iconst 4, 1) := by decide +kernel
theorem dX10_init_13 : decode cX10_init 13 = .ok (.newarray .int, 2) := by decide +kernel
theorem dX10_init_15 : decode cX10_init 15 = .ok (.putfield 13, 3) := by decide +kernel
theorem dX10_init_18 : decode cX10_init 18 = .ok (.aload_n 0, 1) := by decide +kernel
theorem dX10_init_19 : decode cX10_init 19 = .ok (.sipush 240, 3) := by decide +kernel
theorem dX10_init_22 : decode cX10_init 22 = .ok (.newarray .int, 2) := by decide +kernel
theorem dX10_init_24 : decode cX10_init 24 = .ok (.putfield 16, 3) := by decide +kernel
theorem dX10_init_27 : decode cX10_init 27 = .ok (.aload_n 0, 1) := by decide +kernel
theorem dX10_init_28 : decode cX10_init 28 = .ok (.bipush 60, 2) := by decide +kernel
theorem dX10_init_30 : decode cX10_init 30 = .ok (.newarray .int, 2) := by decide +kernel
theorem dX10_init_32 : decode cX10_init 32 = .ok (.putfield 19, 3) := by decide +kernel
theorem dX10_init_35 : decode cX10_init 35 = .ok (.aload_n 0, 1) := by decide +kernel
theorem dX10_init_36 : decode cX10_init 36 = .ok (.bipush 96, 2) := by decide +kernel
theorem dX10_init_38 : decode cX10_init 38 = .ok (.newarray .int, 2) := by decide +kernel
theorem dX10_init_40 : decode cX10_init 40 = .ok (.putfield 22, 3) := by decide +kernel
theorem dX10_init_43 : decode cX10_init 43 = .ok (.aload_n 0, 1) := by decide +kernel
theorem dX10_init_44 : decode cX10_init 44 = .ok (.iconst 2, 1) := by decide +kernel
theorem dX10_init_45 : decode cX10_init 45 = .ok (.newarray .int, 2) := by decide +kernel
theorem dX10_init_47 : decode cX10_init 47 = .ok (.putfield 25, 3) := by decide +kernel
theorem dX10_init_50 : decode cX10_init 50 = .ok (.aload_n 0, 1) := by decide +kernel
theorem dX10_init_51 : decode cX10_init 51 = .ok (.bipush 24, 2) := by decide +kernel
theorem dX10_init_53 : decode cX10_init 53 = .ok (.newarray .int, 2) := by decide +kernel
theorem dX10_init_55 : decode cX10_init 55 = .ok (.putfield 28, 3) := by decide +kernel
theorem dX10_init_58 : decode cX10_init 58 = .ok (.aload_n 0, 1) := by decide +kernel
theorem dX10_init_59 : decode cX10_init 59 = .ok (.bipush 32, 2) := by decide +kernel
theorem dX10_init_61 : decode cX10_init 61 = .ok (.newarray .int, 2) := by decide +kernel
theorem dX10_init_63 : decode cX10_init 63 = .ok (.putfield 31, 3) := by decide +kernel
theorem dX10_init_66 : decode cX10_init 66 = .ok (.aload_n 0, 1) := by decide +kernel
theorem dX10_init_67 : decode cX10_init 67 = .ok (.iconst 2, 1) := by decide +kernel
theorem dX10_init_68 : decode cX10_init 68 = .ok (.newarray .int, 2) := by decide +kernel
theorem dX10_init_70 : decode cX10_init 70 = .ok (.putfield 34, 3) := by decide +kernel
theorem dX10_init_73 : decode cX10_init 73 = .ok (.aload_n 0, 1) := by decide +kernel
theorem dX10_init_74 : decode cX10_init 74 = .ok (.bipush 8, 2) := by decide +kernel
theorem dX10_init_76 : decode cX10_init 76 = .ok (.newarray .int, 2) := by decide +kernel
theorem dX10_init_78 : decode cX10_init 78 = .ok (.putfield 37, 3) := by decide +kernel
theorem dX10_init_81 : decode cX10_init 81 = .ok (.aload_n 0, 1) := by decide +kernel
theorem dX10_init_82 : decode cX10_init 82 = .ok (.bipush 64, 2) := by decide +kernel
theorem dX10_init_84 : decode cX10_init 84 = .ok (.newarray .int, 2) := by decide +kernel
theorem dX10_init_86 : decode cX10_init 86 = .ok (.putfield 40, 3) := by decide +kernel
theorem dX10_init_89 : decode cX10_init 89 = .ok (.aload_n 0, 1) := by decide +kernel
theorem dX10_init_90 : decode cX10_init 90 = .ok (.bipush 8, 2) := by decide +kernel
theorem dX10_init_92 : decode cX10_init 92 = .ok (.newarray .int, 2) := by decide +kernel
theorem dX10_init_94 : decode cX10_init 94 = .ok (.putfield 43, 3) := by decide +kernel
theorem dX10_init_97 : decode cX10_init 97 = .ok (.aload_n 0, 1) := by decide +kernel
theorem dX10_init_98 : decode cX10_init 98 = .ok (.bipush 8, 2) := by decide +kernel
theorem dX10_init_100 : decode cX10_init 100 = .ok (.newarray .int, 2) := by decide +kernel
theorem dX10_init_102 : decode cX10_init 102 = .ok (.putfield 46, 3) := by decide +kernel
theorem dX10_init_105 : decode cX10_init 105 = .ok (.aload_n 0, 1) := by decide +kernel
theorem dX10_init_106 : decode cX10_init 106 = .ok (.bipush 8, 2) := by decide +kernel
theorem dX10_init_108 : decode cX10_init 108 = .ok (.newarray .int, 2) := by decide +kernel
theorem dX10_init_110 : decode cX10_init 110 = .ok (.putfield 49, 3) := by decide +kernel
theorem dX10_init_113 : decode cX10_init 113 = .ok (.aload_n 0, 1) := by decide +kernel
theorem dX10_init_114 : decode cX10_init 114 = .ok (.bipush 8, 2) := by decide +kernel
theorem dX10_init_116 : decode cX10_init 116 = .ok (.newarray .int, 2) := by decide +kernel
theorem dX10_init_118 : decode cX10_init 118 = .ok (.putfield 52, 3) := by decide +kernel
theorem dX10_init_121 : decode cX10_init 121 = .ok (.aload_n 0, 1) := by decide +kernel
theorem dX10_init_122 : decode cX10_init 122 = .ok (.bipush 16, 2) := by decide +kernel
theorem dX10_init_124 : decode cX10_init 124 = .ok (.newarray .int, 2) := by decide +kernel
theorem dX10_init_126 : decode cX10_init 126 = .ok (.putfield 55, 3) := by decide +kernel
theorem dX10_init_129 : decode cX10_init 129 = .ok (.iconst 0, 1) := by decide +kernel
theorem dX10_init_130 : decode cX10_init 130 = .ok (.istore_n 1, 1) := by decide +kernel
theorem dX10_init_131 : decode cX10_init 131 = .ok (.iload_n 1, 1) := by decide +kernel
theorem dX10_init_132 : decode cX10_init 132 = .ok (.iconst 4, 1) := by decide +kernel
theorem dX10_init_133 : decode cX10_init 133 = .ok (.if_icmp .ge 16, 3) := by decide +kernel
theorem dX10_init_136 : decode cX10_init 136 = .ok (.aload_n 0, 1) := by decide +kernel
theorem dX10_init_137 : decode cX10_init 137 = .ok (.getfield 7, 3) := by decide +kernel
theorem dX10_init_140 : decode cX10_init 140 = .ok (.iload_n 1, 1) := by decide +kernel
theorem dX10_init_141 : decode cX10_init 141 = .ok (.iconst (-1), 1) := by decide +kernel
theorem dX10_init_142 : decode cX10_init 142 = .ok (.iastore, 1) := by decide +kernel
theorem dX10_init_143 : decode cX10_init 143 = .ok (.iinc 1 1, 3) := by decide +kernel
theorem dX10_init_146 : decode cX10_init 146 = .ok (.goto (-15), 3) := by decide +kernel
theorem dX10_init_149 : decode cX10_init 149 = .ok (.return_, 1) := by decide +kernel
theorem dX10_in_0 : decode cX10_in 0 = .ok (.lload_n 0, 1) := by decide +kernel
theorem dX10_in_1 : decode cX10_in 1 = .ok (.lload_n 2, 1) := by decide +kernel
theorem dX10_in_2 : decode cX10_in 2 = .ok (.lcmp, 1) := by decide +kernel
theorem dX10_in_3 : decode cX10_in 3 = .ok (.ifCond .lt 14, 3) := by decide +kernel
theorem dX10_in_6 : decode cX10_in 6 = .ok (.lload_n 0, 1) := by decide +kernel
theorem dX10_in_7 : decode cX10_in 7 = .ok (.lload 4, 2) := by decide +kernel
theorem dX10_in_9 : decode cX10_in 9 = .ok (.lcmp, 1) := by decide +kernel
theorem dX10_in_10 : decode cX10_in 10 = .ok (.ifCond .gt 7, 3) := by decide +kernel
theorem dX10_in_13 : decode cX10_in 13 = .ok (.iconst 1, 1) := by decide +kernel
theorem dX10_in_14 : decode cX10_in 14 = .ok (.goto 4, 3) := by decide +kernel
theorem dX10_in_17 : decode cX10_in 17 = .ok (.iconst 0, 1) := by decide +kernel
theorem dX10_in_18 : decode cX10_in 18 = .ok (.ireturn, 1) := by decide +kernel
theorem dX10_no_0 : decode cX10_no 0 = .ok (.ldc2_w 58, 3) := by decide +kernel
theorem dX10_no_3 : decode cX10_no 3 = .ok (.iload_n 0, 1) := by decide +kernel
theorem dX10_no_4 : decode cX10_no 4 = .ok (.i2l, 1) := by decide +kernel
theorem dX10_no_5 : decode cX10_no 5 = .ok (.lsub, 1) := by decide +kernel
theorem dX10_no_6 : decode cX10_no 6 = .ok (.lreturn, 1) := by decide +kernel
theorem dX10_isTwo_0 : decode cX10_isTwo 0 = .ok (.iload_n 0, 1) := by decide +kernel
theorem dX10_isTwo_1 : decode cX10_isTwo 1 = .ok (.i2l, 1) := by decide +kernel
theorem dX10_isTwo_2 : decode cX10_isTwo 2 = .ok (.lconst 0, 1) := by decide +kernel
theorem dX10_isTwo_3 : decode cX10_isTwo 3 = .ok (.lconst 1, 1) := by decide +kernel
theorem dX10_isTwo_4 : decode cX10_isTwo 4 = .ok (.invokestatic 60, 3) := by decide +kernel
theorem dX10_isTwo_7 : decode cX10_isTwo 7 = .ok (.ireturn, 1) := by decide +kernel
theorem dX10_isIn_0 : decode cX10_isIn 0 = .ok (.iload_n 0, 1) := by decide +kernel
theorem dX10_isIn_1 : decode cX10_isIn 1 = .ok (.iload_n 1, 1) := by decide +kernel
theorem dX10_isIn_2 : decode cX10_isIn 2 = .ok (.ishr, 1) := by decide +kernel
theorem dX10_isIn_3 : decode cX10_isIn 3 = .ok (.iconst 1, 1) := by decide +kernel
theorem dX10_isIn_4 : decode cX10_isIn 4 = .ok (.iand, 1) := by decide +kernel
theorem dX10_isIn_5 : decode cX10_isIn 5 = .ok (.iconst 1, 1) := by decide +kernel
theorem dX10_isIn_6 : decode cX10_isIn 6 = .ok (.if_icmp .ne 7, 3) := by decide +kernel
theorem dX10_isIn_9 : decode cX10_isIn 9 = .ok (.iconst 1, 1) := by decide +kernel
theorem dX10_isIn_10 : decode cX10_isIn 10 = .ok (.goto 4, 3) := by decide +kernel
theorem dX10_isIn_13 : decode cX10_isIn 13 = .ok (.iconst 0, 1) := by decide +kernel
theorem dX10_isIn_14 : decode cX10_isIn 14 = .ok (.ireturn, 1) := by decide +kernel
theorem dX10_ones_0 : decode cX10_ones 0 = .ok (.iconst 0, 1) := by decide +kernel
theorem dX10_ones_1 : decode cX10_ones 1 = .ok (.istore_n 1, 1) := by decide +kernel
theorem dX10_ones_2 : decode cX10_ones 2 = .ok (.iload_n 0, 1) := by decide +kernel
theorem dX10_ones_3 : decode cX10_ones 3 = .ok (.istore_n 2, 1) := by decide +kernel
theorem dX10_ones_4 : decode cX10_ones 4 = .ok (.iload_n 2, 1) := by decide +kernel
theorem dX10_ones_5 : decode cX10_ones 5 = .ok (.ifCond .eq 15, 3) := by decide +kernel
theorem dX10_ones_8 : decode cX10_ones 8 = .ok (.iinc 1 1, 3) := by decide +kernel
theorem dX10_ones_11 : decode cX10_ones 11 = .ok (.iload_n 2, 1) := by decide +kernel
theorem dX10_ones_12 : decode cX10_ones 12 = .ok (.iload_n 2, 1) := by decide +kernel
theorem dX10_ones_13 : decode cX10_ones 13 = .ok (.iconst 1, 1) := by decide +kernel
theorem dX10_ones_14 : decode cX10_ones 14 = .ok (.isub, 1) := by decide +kernel
theorem dX10_ones_15 : decode cX10_ones 15 = .ok (.iand, 1) := by decide +kernel
theorem dX10_ones_16 : decode cX10_ones 16 = .ok (.istore_n 2, 1) := by decide +kernel
theorem dX10_ones_17 : decode cX10_ones 17 = .ok (.goto (-13), 3) := by decide +kernel
theorem dX10_ones_20 : decode cX10_ones 20 = .ok (.iload_n 1, 1) := by decide +kernel
theorem dX10_ones_21 : decode cX10_ones 21 = .ok (.ireturn, 1) := by decide +kernel
theorem dX10_lesser_0 : decode cX10_lesser 0 = .ok (.iload_n 0, 1) := by decide +kernel
theorem dX10_lesser_1 : decode cX10_lesser 1 = .ok (.iload_n 1, 1) := by decide +kernel
theorem dX10_lesser_2 : decode cX10_lesser 2 = .ok (.if_icmp .ge 7, 3) := by decide +kernel
theorem dX10_lesser_5 : decode cX10_lesser 5 = .ok (.iload_n 0, 1) := by decide +kernel
theorem dX10_lesser_6 : decode cX10_lesser 6 = .ok (.goto 4, 3) := by decide +kernel
theorem dX10_lesser_9 : decode cX10_lesser 9 = .ok (.iload_n 1, 1) := by decide +kernel
theorem dX10_lesser_10 : decode cX10_lesser 10 = .ok (.ireturn, 1) := by decide +kernel
theorem dX10_part_0 : decode cX10_part 0 = .ok (.lload_n 0, 1) := by decide +kernel
theorem dX10_part_1 : decode cX10_part 1 = .ok (.lstore 5, 2) := by decide +kernel
theorem dX10_part_3 : decode cX10_part 3 = .ok (.lload_n 2, 1) := by decide +kernel
theorem dX10_part_4 : decode cX10_part 4 = .ok (.lstore 7, 2) := by decide +kernel
theorem dX10_part_6 : decode cX10_part 6 = .ok (.lload 7, 2) := by decide +kernel
theorem dX10_part_8 : decode cX10_part 8 = .ok (.lconst 0, 1) := by decide +kernel
theorem dX10_part_9 : decode cX10_part 9 = .ok (.lcmp, 1) := by decide +kernel
theorem dX10_part_10 : decode cX10_part 10 = .ok (.ifCond .eq 21, 3) := by decide +kernel
theorem dX10_part_13 : decode cX10_part 13 = .ok (.lload 5, 2) := by decide +kernel
theorem dX10_part_15 : decode cX10_part 15 = .ok (.lload 7, 2) := by decide +kernel
theorem dX10_part_17 : decode cX10_part 17 = .ok (.lrem, 1) := by decide +kernel
theorem dX10_part_18 : decode cX10_part 18 = .ok (.lstore 9, 2) := by decide +kernel
theorem dX10_part_20 : decode cX10_part 20 = .ok (.lload 7, 2) := by decide +kernel
theorem dX10_part_22 : decode cX10_part 22 = .ok (.lstore 5, 2) := by decide +kernel
theorem dX10_part_24 : decode cX10_part 24 = .ok (.lload 9, 2) := by decide +kernel
theorem dX10_part_26 : decode cX10_part 26 = .ok (.lstore 7, 2) := by decide +kernel
theorem dX10_part_28 : decode cX10_part 28 = .ok (.goto (-22), 3) := by decide +kernel
theorem dX10_part_31 : decode cX10_part 31 = .ok (.iload 4, 2) := by decide +kernel
theorem dX10_part_33 : decode cX10_part 33 = .ok (.ifCond .ne 7, 3) := by decide +kernel
theorem dX10_part_36 : decode cX10_part 36 = .ok (.lload_n 0, 1) := by decide +kernel
theorem dX10_part_37 : decode cX10_part 37 = .ok (.goto 4, 3) := by decide +kernel
theorem dX10_part_40 : decode cX10_part 40 = .ok (.lload_n 2, 1) := by decide +kernel
theorem dX10_part_41 : decode cX10_part 41 = .ok (.lload 5, 2) := by decide +kernel
theorem dX10_part_43 : decode cX10_part 43 = .ok (.ldiv, 1) := by decide +kernel
theorem dX10_part_44 : decode cX10_part 44 = .ok (.lreturn, 1) := by decide +kernel
theorem dX10_finds_0 : decode cX10_finds 0 = .ok (.aload_n 0, 1) := by decide +kernel
theorem dX10_finds_1 : decode cX10_finds 1 = .ok (.iload_n 1, 1) := by decide +kernel
theorem dX10_finds_2 : decode cX10_finds 2 = .ok (.putfield 64, 3) := by decide +kernel
theorem dX10_finds_5 : decode cX10_finds 5 = .ok (.bipush (-10), 2) := by decide +kernel
theorem dX10_finds_7 : decode cX10_finds 7 = .ok (.iload_n 1, 1) := by decide +kernel
theorem dX10_finds_8 : decode cX10_finds 8 = .ok (.isub, 1) := by decide +kernel
theorem dX10_finds_9 : decode cX10_finds 9 = .ok (.ireturn, 1) := by decide +kernel
theorem dX10_isSheet_0 : decode cX10_isSheet 0 = .ok (.iload_n 0, 1) := by decide +kernel
theorem dX10_isSheet_1 : decode cX10_isSheet 1 = .ok (.i2l, 1) := by decide +kernel
theorem dX10_isSheet_2 : decode cX10_isSheet 2 = .ok (.lconst 0, 1) := by decide +kernel
theorem dX10_isSheet_3 : decode cX10_isSheet 3 = .ok (.ldc2_w 68, 3) := by decide +kernel
theorem dX10_isSheet_6 : decode cX10_isSheet 6 = .ok (.invokestatic 60, 3) := by decide +kernel
theorem dX10_isSheet_9 : decode cX10_isSheet 9 = .ok (.ireturn, 1) := by decide +kernel
theorem dX10_sheet_0 : decode cX10_sheet 0 = .ok (.iload_n 1, 1) := by decide +kernel
theorem dX10_sheet_1 : decode cX10_sheet 1 = .ok (.invokestatic 70, 3) := by decide +kernel
theorem dX10_sheet_4 : decode cX10_sheet 4 = .ok (.ifCond .eq 21, 3) := by decide +kernel
theorem dX10_sheet_7 : decode cX10_sheet 7 = .ok (.iload_n 2, 1) := by decide +kernel
theorem dX10_sheet_8 : decode cX10_sheet 8 = .ok (.i2l, 1) := by decide +kernel
theorem dX10_sheet_9 : decode cX10_sheet 9 = .ok (.lconst 0, 1) := by decide +kernel
theorem dX10_sheet_10 : decode cX10_sheet 10 = .ok (.ldc2_w 74, 3) := by decide +kernel
theorem dX10_sheet_13 : decode cX10_sheet 13 = .ok (.invokestatic 60, 3) := by decide +kernel
theorem dX10_sheet_16 : decode cX10_sheet 16 = .ok (.ifCond .eq 9, 3) := by decide +kernel
theorem dX10_sheet_19 : decode cX10_sheet 19 = .ok (.iload_n 3, 1) := by decide +kernel
theorem dX10_sheet_20 : decode cX10_sheet 20 = .ok (.bipush 60, 2) := by decide +kernel
theorem dX10_sheet_22 : decode cX10_sheet 22 = .ok (.if_icmp .le 6, 3) := by decide +kernel
theorem dX10_sheet_25 : decode cX10_sheet 25 = .ok (.bipush (-2), 2) := by decide +kernel
theorem dX10_sheet_27 : decode cX10_sheet 27 = .ok (.ireturn, 1) := by decide +kernel
theorem dX10_sheet_28 : decode cX10_sheet 28 = .ok (.iload_n 3, 1) := by decide +kernel
theorem dX10_sheet_29 : decode cX10_sheet 29 = .ok (.ifCond .ge 9, 3) := by decide +kernel
theorem dX10_sheet_32 : decode cX10_sheet 32 = .ok (.aload_n 0, 1) := by decide +kernel
theorem dX10_sheet_33 : decode cX10_sheet 33 = .ok (.iconst 5, 1) := by decide +kernel
theorem dX10_sheet_34 : decode cX10_sheet 34 = .ok (.invokevirtual 76, 3) := by decide +kernel
theorem dX10_sheet_37 : decode cX10_sheet 37 = .ok (.ireturn, 1) := by decide +kernel
theorem dX10_sheet_38 : decode cX10_sheet 38 = .ok (.aload_n 0, 1) := by decide +kernel
theorem dX10_sheet_39 : decode cX10_sheet 39 = .ok (.getfield 7, 3) := by decide +kernel
theorem dX10_sheet_42 : decode cX10_sheet 42 = .ok (.iload_n 1, 1) := by decide +kernel
theorem dX10_sheet_43 : decode cX10_sheet 43 = .ok (.iload_n 2, 1) := by decide +kernel
theorem dX10_sheet_44 : decode cX10_sheet 44 = .ok (.iastore, 1) := by decide +kernel
theorem dX10_sheet_45 : decode cX10_sheet 45 = .ok (.aload_n 0, 1) := by decide +kernel
theorem dX10_sheet_46 : decode cX10_sheet 46 = .ok (.getfield 13, 3) := by decide +kernel
theorem dX10_sheet_49 : decode cX10_sheet 49 = .ok (.iload_n 1, 1) := by decide +kernel
theorem dX10_sheet_50 : decode cX10_sheet 50 = .ok (.iload_n 3, 1) := by decide +kernel
theorem dX10_sheet_51 : decode cX10_sheet 51 = .ok (.iastore, 1) := by decide +kernel
theorem dX10_sheet_52 : decode cX10_sheet 52 = .ok (.iconst 0, 1) := by decide +kernel
theorem dX10_sheet_53 : decode cX10_sheet 53 = .ok (.istore 4, 2) := by decide +kernel
theorem dX10_sheet_55 : decode cX10_sheet 55 = .ok (.iload 4, 2) := by decide +kernel
theorem dX10_sheet_57 : decode cX10_sheet 57 = .ok (.iload_n 3, 1) := by decide +kernel
theorem dX10_sheet_58 : decode cX10_sheet 58 = .ok (.if_icmp .ge 22, 3) := by decide +kernel
theorem dX10_sheet_61 : decode cX10_sheet 61 = .ok (.aload_n 0, 1) := by decide +kernel
theorem dX10_sheet_62 : decode cX10_sheet 62 = .ok (.getfield 16, 3) := by decide +kernel
theorem dX10_sheet_65 : decode cX10_sheet 65 = .ok (.bipush 60, 2) := by decide +kernel
theorem dX10_sheet_67 : decode cX10_sheet 67 = .ok (.iload_n 1, 1) := by decide +kernel
theorem dX10_sheet_68 : decode cX10_sheet 68 = .ok (.imul, 1) := by decide +kernel
theorem dX10_sheet_69 : decode cX10_sheet 69 = .ok (.iload 4, 2) := by decide +kernel
theorem dX10_sheet_71 : decode cX10_sheet 71 = .ok (.iadd, 1) := by decide +kernel
theorem dX10_sheet_72 : decode cX10_sheet 72 = .ok (.iconst 0, 1) := by decide +kernel
theorem dX10_sheet_73 : decode cX10_sheet 73 = .ok (.iastore, 1) := by decide +kernel
theorem dX10_sheet_74 : decode cX10_sheet 74 = .ok (.iinc 4 1, 3) := by decide +kernel
theorem dX10_sheet_77 : decode cX10_sheet 77 = .ok (.goto (-22), 3) := by decide +kernel
theorem dX10_sheet_80 : decode cX10_sheet 80 = .ok (.iload_n 3, 1) := by decide +kernel
theorem dX10_sheet_81 : decode cX10_sheet 81 = .ok (.ireturn, 1) := by decide +kernel
theorem dX10_lose_0 : decode cX10_lose 0 = .ok (.iload_n 1, 1) := by decide +kernel
theorem dX10_lose_1 : decode cX10_lose 1 = .ok (.invokestatic 70, 3) := by decide +kernel
theorem dX10_lose_4 : decode cX10_lose 4 = .ok (.ifCond .ne 6, 3) := by decide +kernel
theorem dX10_lose_7 : decode cX10_lose 7 = .ok (.bipush (-2), 2) := by decide +kernel
theorem dX10_lose_9 : decode cX10_lose 9 = .ok (.ireturn, 1) := by decide +kernel
theorem dX10_lose_10 : decode cX10_lose 10 = .ok (.aload_n 0, 1) := by decide +kernel
theorem dX10_lose_11 : decode cX10_lose 11 = .ok (.getfield 7, 3) := by decide +kernel
theorem dX10_lose_14 : decode cX10_lose 14 = .ok (.iload_n 1, 1) := by decide +kernel
theorem dX10_lose_15 : decode cX10_lose 15 = .ok (.iaload, 1) := by decide +kernel
theorem dX10_lose_16 : decode cX10_lose 16 = .ok (.ifCond .ge 9, 3) := by decide +kernel
theorem dX10_lose_19 : decode cX10_lose 19 = .ok (.aload_n 0, 1) := by decide +kernel
theorem dX10_lose_20 : decode cX10_lose 20 = .ok (.iconst 1, 1) := by decide +kernel
theorem dX10_lose_21 : decode cX10_lose 21 = .ok (.invokevirtual 76, 3) := by decide +kernel
theorem dX10_lose_24 : decode cX10_lose 24 = .ok (.ireturn, 1) := by decide +kernel
theorem dX10_lose_25 : decode cX10_lose 25 = .ok (.aload_n 0, 1) := by decide +kernel
theorem dX10_lose_26 : decode cX10_lose 26 = .ok (.getfield 7, 3) := by decide +kernel
theorem dX10_lose_29 : decode cX10_lose 29 = .ok (.iload_n 1, 1) := by decide +kernel
theorem dX10_lose_30 : decode cX10_lose 30 = .ok (.iconst (-1), 1) := by decide +kernel
theorem dX10_lose_31 : decode cX10_lose 31 = .ok (.iastore, 1) := by decide +kernel
theorem dX10_lose_32 : decode cX10_lose 32 = .ok (.aload_n 0, 1) := by decide +kernel
theorem dX10_lose_33 : decode cX10_lose 33 = .ok (.getfield 13, 3) := by decide +kernel
theorem dX10_lose_36 : decode cX10_lose 36 = .ok (.iload_n 1, 1) := by decide +kernel
theorem dX10_lose_37 : decode cX10_lose 37 = .ok (.iaload, 1) := by decide +kernel
theorem dX10_lose_38 : decode cX10_lose 38 = .ok (.ireturn, 1) := by decide +kernel
theorem dX10_lacks_0 : decode cX10_lacks 0 = .ok (.aload_n 0, 1) := by decide +kernel
theorem dX10_lacks_1 : decode cX10_lacks 1 = .ok (.getfield 7, 3) := by decide +kernel
theorem dX10_lacks_4 : decode cX10_lacks 4 = .ok (.iload_n 1, 1) := by decide +kernel
theorem dX10_lacks_5 : decode cX10_lacks 5 = .ok (.iaload, 1) := by decide +kernel
theorem dX10_lacks_6 : decode cX10_lacks 6 = .ok (.ifCond .ge 9, 3) := by decide +kernel
theorem dX10_lacks_9 : decode cX10_lacks 9 = .ok (.aload_n 0, 1) := by decide +kernel
theorem dX10_lacks_10 : decode cX10_lacks 10 = .ok (.iconst 1, 1) := by decide +kernel
theorem dX10_lacks_11 : decode cX10_lacks 11 = .ok (.invokevirtual 76, 3) := by decide +kernel
theorem dX10_lacks_14 : decode cX10_lacks 14 = .ok (.ireturn, 1) := by decide +kernel
theorem dX10_lacks_15 : decode cX10_lacks 15 = .ok (.aload_n 0, 1) := by decide +kernel
theorem dX10_lacks_16 : decode cX10_lacks 16 = .ok (.getfield 7, 3) := by decide +kernel
theorem dX10_lacks_19 : decode cX10_lacks 19 = .ok (.iload_n 1, 1) := by decide +kernel
theorem dX10_lacks_20 : decode cX10_lacks 20 = .ok (.iaload, 1) := by decide +kernel
theorem dX10_lacks_21 : decode cX10_lacks 21 = .ok (.iload_n 2, 1) := by decide +kernel
theorem dX10_lacks_22 : decode cX10_lacks 22 = .ok (.if_icmp .eq 9, 3) := by decide +kernel
theorem dX10_lacks_25 : decode cX10_lacks 25 = .ok (.aload_n 0, 1) := by decide +kernel
theorem dX10_lacks_26 : decode cX10_lacks 26 = .ok (.iconst 3, 1) := by decide +kernel
theorem dX10_lacks_27 : decode cX10_lacks 27 = .ok (.invokevirtual 76, 3) := by decide +kernel
theorem dX10_lacks_30 : decode cX10_lacks 30 = .ok (.ireturn, 1) := by decide +kernel
theorem dX10_lacks_31 : decode cX10_lacks 31 = .ok (.iload_n 3, 1) := by decide +kernel
theorem dX10_lacks_32 : decode cX10_lacks 32 = .ok (.i2l, 1) := by decide +kernel
theorem dX10_lacks_33 : decode cX10_lacks 33 = .ok (.lconst 0, 1) := by decide +kernel
theorem dX10_lacks_34 : decode cX10_lacks 34 = .ok (.aload_n 0, 1) := by decide +kernel
theorem dX10_lacks_35 : decode cX10_lacks 35 = .ok (.getfield 13, 3) := by decide +kernel
theorem dX10_lacks_38 : decode cX10_lacks 38 = .ok (.iload_n 1, 1) := by decide +kernel
theorem dX10_lacks_39 : decode cX10_lacks 39 = .ok (.iaload, 1) := by decide +kernel
theorem dX10_lacks_40 : decode cX10_lacks 40 = .ok (.iconst 1, 1) := by decide +kernel
theorem dX10_lacks_41 : decode cX10_lacks 41 = .ok (.isub, 1) := by decide +kernel
theorem dX10_lacks_42 : decode cX10_lacks 42 = .ok (.i2l, 1) := by decide +kernel
theorem dX10_lacks_43 : decode cX10_lacks 43 = .ok (.invokestatic 60, 3) := by decide +kernel
theorem dX10_lacks_46 : decode cX10_lacks 46 = .ok (.ifCond .eq 7, 3) := by decide +kernel
theorem dX10_lacks_49 : decode cX10_lacks 49 = .ok (.iconst 0, 1) := by decide +kernel
theorem dX10_lacks_50 : decode cX10_lacks 50 = .ok (.goto 8, 3) := by decide +kernel
theorem dX10_lacks_53 : decode cX10_lacks 53 = .ok (.aload_n 0, 1) := by decide +kernel
theorem dX10_lacks_54 : decode cX10_lacks 54 = .ok (.iconst 2, 1) := by decide +kernel
theorem dX10_lacks_55 : decode cX10_lacks 55 = .ok (.invokevirtual 76, 3) := by decide +kernel
theorem dX10_lacks_58 : decode cX10_lacks 58 = .ok (.ireturn, 1) := by decide +kernel
theorem dX10_cut_0 : decode cX10_cut 0 = .ok (.iload_n 0, 1) := by decide +kernel
theorem dX10_cut_1 : decode cX10_cut 1 = .ok (.ifCond .ne 8, 3) := by decide +kernel
theorem dX10_cut_4 : decode cX10_cut 4 = .ok (.iload_n 1, 1) := by decide +kernel
theorem dX10_cut_5 : decode cX10_cut 5 = .ok (.i2b, 1) := by decide +kernel
theorem dX10_cut_6 : decode cX10_cut 6 = .ok (.goto 14, 3) := by decide +kernel
theorem dX10_cut_9 : decode cX10_cut 9 = .ok (.iload_n 0, 1) := by decide +kernel
theorem dX10_cut_10 : decode cX10_cut 10 = .ok (.iconst 1, 1) := by decide +kernel
theorem dX10_cut_11 : decode cX10_cut 11 = .ok (.if_icmp .ne 8, 3) := by decide +kernel
theorem dX10_cut_14 : decode cX10_cut 14 = .ok (.iload_n 1, 1) := by decide +kernel
theorem dX10_cut_15 : decode cX10_cut 15 = .ok (.i2s, 1) := by decide +kernel
theorem dX10_cut_16 : decode cX10_cut 16 = .ok (.goto 4, 3) := by decide +kernel
theorem dX10_cut_19 : decode cX10_cut 19 = .ok (.iload_n 1, 1) := by decide +kernel
theorem dX10_cut_20 : decode cX10_cut 20 = .ok (.ireturn, 1) := by decide +kernel
theorem dX10_lay_0 : decode cX10_lay 0 = .ok (.iload_n 1, 1) := by decide +kernel
theorem dX10_lay_1 : decode cX10_lay 1 = .ok (.invokestatic 70, 3) := by decide +kernel
theorem dX10_lay_4 : decode cX10_lay 4 = .ok (.ifCond .eq 15, 3) := by decide +kernel
theorem dX10_lay_7 : decode cX10_lay 7 = .ok (.iload_n 2, 1) := by decide +kernel
theorem dX10_lay_8 : decode cX10_lay 8 = .ok (.i2l, 1) := by decide +kernel
theorem dX10_lay_9 : decode cX10_lay 9 = .ok (.lconst 0, 1) := by decide +kernel
theorem dX10_lay_10 : decode cX10_lay 10 = .ok (.ldc2_w 74, 3) := by decide +kernel
theorem dX10_lay_13 : decode cX10_lay 13 = .ok (.invokestatic 60, 3) := by decide +kernel
theorem dX10_lay_16 : decode cX10_lay 16 = .ok (.ifCond .ne 6, 3) := by decide +kernel
theorem dX10_lay_19 : decode cX10_lay 19 = .ok (.bipush (-2), 2) := by decide +kernel
theorem dX10_lay_21 : decode cX10_lay 21 = .ok (.ireturn, 1) := by decide +kernel
theorem dX10_lay_22 : decode cX10_lay 22 = .ok (.aload_n 0, 1) := by decide +kernel
theorem dX10_lay_23 : decode cX10_lay 23 = .ok (.iload_n 1, 1) := by decide +kernel
theorem dX10_lay_24 : decode cX10_lay 24 = .ok (.iload_n 2, 1) := by decide +kernel
theorem dX10_lay_25 : decode cX10_lay 25 = .ok (.iload_n 3, 1) := by decide +kernel
theorem dX10_lay_26 : decode cX10_lay 26 = .ok (.invokevirtual 80, 3) := by decide +kernel
theorem dX10_lay_29 : decode cX10_lay 29 = .ok (.istore 5, 2) := by decide +kernel
theorem dX10_lay_31 : decode cX10_lay 31 = .ok (.iload 5, 2) := by decide +kernel
theorem dX10_lay_33 : decode cX10_lay 33 = .ok (.ifCond .eq 6, 3) := by decide +kernel
theorem dX10_lay_36 : decode cX10_lay 36 = .ok (.iload 5, 2) := by decide +kernel
theorem dX10_lay_38 : decode cX10_lay 38 = .ok (.ireturn, 1) := by decide +kernel
theorem dX10_lay_39 : decode cX10_lay 39 = .ok (.aload_n 0, 1) := by decide +kernel
theorem dX10_lay_40 : decode cX10_lay 40 = .ok (.getfield 16, 3) := by decide +kernel
theorem dX10_lay_43 : decode cX10_lay 43 = .ok (.bipush 60, 2) := by decide +kernel
theorem dX10_lay_45 : decode cX10_lay 45 = .ok (.iload_n 1, 1) := by decide +kernel
theorem dX10_lay_46 : decode cX10_lay 46 = .ok (.imul, 1) := by decide +kernel
theorem dX10_lay_47 : decode cX10_lay 47 = .ok (.iload_n 3, 1) := by decide +kernel
theorem dX10_lay_48 : decode cX10_lay 48 = .ok (.iadd, 1) := by decide +kernel
theorem dX10_lay_49 : decode cX10_lay 49 = .ok (.iload_n 2, 1) := by decide +kernel
theorem dX10_lay_50 : decode cX10_lay 50 = .ok (.iload 4, 2) := by decide +kernel
theorem dX10_lay_52 : decode cX10_lay 52 = .ok (.invokestatic 84, 3) := by decide +kernel
theorem dX10_lay_55 : decode cX10_lay 55 = .ok (.iastore, 1) := by decide +kernel
theorem dX10_lay_56 : decode cX10_lay 56 = .ok (.iconst 1, 1) := by decide +kernel
theorem dX10_lay_57 : decode cX10_lay 57 = .ok (.ireturn, 1) := by decide +kernel
theorem dX10_get_0 : decode cX10_get 0 = .ok (.iload_n 1, 1) := by decide +kernel
theorem dX10_get_1 : decode cX10_get 1 = .ok (.invokestatic 70, 3) := by decide +kernel
theorem dX10_get_4 : decode cX10_get 4 = .ok (.ifCond .eq 25, 3) := by decide +kernel
theorem dX10_get_7 : decode cX10_get 7 = .ok (.iload_n 2, 1) := by decide +kernel
theorem dX10_get_8 : decode cX10_get 8 = .ok (.i2l, 1) := by decide +kernel
theorem dX10_get_9 : decode cX10_get 9 = .ok (.lconst 0, 1) := by decide +kernel
theorem dX10_get_10 : decode cX10_get 10 = .ok (.ldc2_w 74, 3) := by decide +kernel
theorem dX10_get_13 : decode cX10_get 13 = .ok (.invokestatic 60, 3) := by decide +kernel
theorem dX10_get_16 : decode cX10_get 16 = .ok (.ifCond .eq 13, 3) := by decide +kernel
theorem dX10_get_19 : decode cX10_get 19 = .ok (.aload_n 0, 1) := by decide +kernel
theorem dX10_get_20 : decode cX10_get 20 = .ok (.iload_n 1, 1) := by decide +kernel
theorem dX10_get_21 : decode cX10_get 21 = .ok (.iload_n 2, 1) := by decide +kernel
theorem dX10_get_22 : decode cX10_get 22 = .ok (.iload_n 3, 1) := by decide +kernel
theorem dX10_get_23 : decode cX10_get 23 = .ok (.invokevirtual 80, 3) := by decide +kernel
theorem dX10_get_26 : decode cX10_get 26 = .ok (.ifCond .eq 6, 3) := by decide +kernel
theorem dX10_get_29 : decode cX10_get 29 = .ok (.ldc 88, 2) := by decide +kernel
theorem dX10_get_31 : decode cX10_get 31 = .ok (.ireturn, 1) := by decide +kernel
theorem dX10_get_32 : decode cX10_get 32 = .ok (.aload_n 0, 1) := by decide +kernel
theorem dX10_get_33 : decode cX10_get 33 = .ok (.getfield 16, 3) := by decide +kernel
theorem dX10_get_36 : decode cX10_get 36 = .ok (.bipush 60, 2) := by decide +kernel
theorem dX10_get_38 : decode cX10_get 38 = .ok (.iload_n 1, 1) := by decide +kernel
theorem dX10_get_39 : decode cX10_get 39 = .ok (.imul, 1) := by decide +kernel
theorem dX10_get_40 : decode cX10_get 40 = .ok (.iload_n 3, 1) := by decide +kernel
theorem dX10_get_41 : decode cX10_get 41 = .ok (.iadd, 1) := by decide +kernel
theorem dX10_get_42 : decode cX10_get 42 = .ok (.iaload, 1) := by decide +kernel
theorem dX10_get_43 : decode cX10_get 43 = .ok (.ireturn, 1) := by decide +kernel
theorem dX10_copy_0 : decode cX10_copy 0 = .ok (.iload_n 1, 1) := by decide +kernel
theorem dX10_copy_1 : decode cX10_copy 1 = .ok (.invokestatic 70, 3) := by decide +kernel
theorem dX10_copy_4 : decode cX10_copy 4 = .ok (.ifCond .eq 10, 3) := by decide +kernel
theorem dX10_copy_7 : decode cX10_copy 7 = .ok (.iload_n 3, 1) := by decide +kernel
theorem dX10_copy_8 : decode cX10_copy 8 = .ok (.invokestatic 70, 3) := by decide +kernel
theorem dX10_copy_11 : decode cX10_copy 11 = .ok (.ifCond .ne 6, 3) := by decide +kernel
theorem dX10_copy_14 : decode cX10_copy 14 = .ok (.bipush (-2), 2) := by decide +kernel
theorem dX10_copy_16 : decode cX10_copy 16 = .ok (.ireturn, 1) := by decide +kernel
theorem dX10_copy_17 : decode cX10_copy 17 = .ok (.aload_n 0, 1) := by decide +kernel
theorem dX10_copy_18 : decode cX10_copy 18 = .ok (.getfield 7, 3) := by decide +kernel
theorem dX10_copy_21 : decode cX10_copy 21 = .ok (.iload_n 1, 1) := by decide +kernel
theorem dX10_copy_22 : decode cX10_copy 22 = .ok (.iaload, 1) := by decide +kernel
theorem dX10_copy_23 : decode cX10_copy 23 = .ok (.ifCond .lt 12, 3) := by decide +kernel
theorem dX10_copy_26 : decode cX10_copy 26 = .ok (.aload_n 0, 1) := by decide +kernel
theorem dX10_copy_27 : decode cX10_copy 27 = .ok (.getfield 7, 3) := by decide +kernel
theorem dX10_copy_30 : decode cX10_copy 30 = .ok (.iload_n 3, 1) := by decide +kernel
theorem dX10_copy_31 : decode cX10_copy 31 = .ok (.iaload, 1) := by decide +kernel
theorem dX10_copy_32 : decode cX10_copy 32 = .ok (.ifCond .ge 9, 3) := by decide +kernel
theorem dX10_copy_35 : decode cX10_copy 35 = .ok (.aload_n 0, 1) := by decide +kernel
theorem dX10_copy_36 : decode cX10_copy 36 = .ok (.iconst 1, 1) := by decide +kernel
theorem dX10_copy_37 : decode cX10_copy 37 = .ok (.invokevirtual 76, 3) := by decide +kernel
theorem dX10_copy_40 : decode cX10_copy 40 = .ok (.ireturn, 1) := by decide +kernel
theorem dX10_copy_41 : decode cX10_copy 41 = .ok (.aload_n 0, 1) := by decide +kernel
theorem dX10_copy_42 : decode cX10_copy 42 = .ok (.getfield 7, 3) := by decide +kernel
theorem dX10_copy_45 : decode cX10_copy 45 = .ok (.iload_n 1, 1) := by decide +kernel
theorem dX10_copy_46 : decode cX10_copy 46 = .ok (.iaload, 1) := by decide +kernel
theorem dX10_copy_47 : decode cX10_copy 47 = .ok (.aload_n 0, 1) := by decide +kernel
theorem dX10_copy_48 : decode cX10_copy 48 = .ok (.getfield 7, 3) := by decide +kernel
theorem dX10_copy_51 : decode cX10_copy 51 = .ok (.iload_n 3, 1) := by decide +kernel
theorem dX10_copy_52 : decode cX10_copy 52 = .ok (.iaload, 1) := by decide +kernel
theorem dX10_copy_53 : decode cX10_copy 53 = .ok (.if_icmp .eq 9, 3) := by decide +kernel
theorem dX10_copy_56 : decode cX10_copy 56 = .ok (.aload_n 0, 1) := by decide +kernel
theorem dX10_copy_57 : decode cX10_copy 57 = .ok (.iconst 4, 1) := by decide +kernel
theorem dX10_copy_58 : decode cX10_copy 58 = .ok (.invokevirtual 76, 3) := by decide +kernel
theorem dX10_copy_61 : decode cX10_copy 61 = .ok (.ireturn, 1) := by decide +kernel
theorem dX10_copy_62 : decode cX10_copy 62 = .ok (.iload_n 2, 1) := by decide +kernel
theorem dX10_copy_63 : decode cX10_copy 63 = .ok (.ifCond .lt 48, 3) := by decide +kernel
theorem dX10_copy_66 : decode cX10_copy 66 = .ok (.iload 4, 2) := by decide +kernel
theorem dX10_copy_68 : decode cX10_copy 68 = .ok (.ifCond .lt 43, 3) := by decide +kernel
theorem dX10_copy_71 : decode cX10_copy 71 = .ok (.iload 5, 2) := by decide +kernel
theorem dX10_copy_73 : decode cX10_copy 73 = .ok (.ifCond .lt 38, 3) := by decide +kernel
theorem dX10_copy_76 : decode cX10_copy 76 = .ok (.iload_n 2, 1) := by decide +kernel
theorem dX10_copy_77 : decode cX10_copy 77 = .ok (.i2l, 1) := by decide +kernel
theorem dX10_copy_78 : decode cX10_copy 78 = .ok (.iload 5, 2) := by decide +kernel
theorem dX10_copy_80 : decode cX10_copy 80 = .ok (.i2l, 1) := by decide +kernel
theorem dX10_copy_81 : decode cX10_copy 81 = .ok (.ladd, 1) := by decide +kernel
theorem dX10_copy_82 : decode cX10_copy 82 = .ok (.aload_n 0, 1) := by decide +kernel
theorem dX10_copy_83 : decode cX10_copy 83 = .ok (.getfield 13, 3) := by decide +kernel
theorem dX10_copy_86 : decode cX10_copy 86 = .ok (.iload_n 1, 1) := by decide +kernel
theorem dX10_copy_87 : decode cX10_copy 87 = .ok (.iaload, 1) := by decide +kernel
theorem dX10_copy_88 : decode cX10_copy 88 = .ok (.i2l, 1) := by decide +kernel
theorem dX10_copy_89 : decode cX10_copy 89 = .ok (.lcmp, 1) := by decide +kernel
theorem dX10_copy_90 : decode cX10_copy 90 = .ok (.ifCond .gt 21, 3) := by decide +kernel
theorem dX10_copy_93 : decode cX10_copy 93 = .ok (.iload 4, 2) := by decide +kernel
theorem dX10_copy_95 : decode cX10_copy 95 = .ok (.i2l, 1) := by decide +kernel
theorem dX10_copy_96 : decode cX10_copy 96 = .ok (.iload 5, 2) := by decide +kernel
theorem dX10_copy_98 : decode cX10_copy 98 = .ok (.i2l, 1) := by decide +kernel
theorem dX10_copy_99 : decode cX10_copy 99 = .ok (.ladd, 1) := by decide +kernel
theorem dX10_copy_100 : decode cX10_copy 100 = .ok (.aload_n 0, 1) := by decide +kernel
theorem dX10_copy_101 : decode cX10_copy 101 = .ok (.getfield 13, 3) := by decide +kernel
theorem dX10_copy_104 : decode cX10_copy 104 = .ok (.iload_n 3, 1) := by decide +kernel
theorem dX10_copy_105 : decode cX10_copy 105 = .ok (.iaload, 1) := by decide +kernel
theorem dX10_copy_106 : decode cX10_copy 106 = .ok (.i2l, 1) := by decide +kernel
theorem dX10_copy_107 : decode cX10_copy 107 = .ok (.lcmp, 1) := by decide +kernel
theorem dX10_copy_108 : decode cX10_copy 108 = .ok (.ifCond .le 9, 3) := by decide +kernel
theorem dX10_copy_111 : decode cX10_copy 111 = .ok (.aload_n 0, 1) := by decide +kernel
theorem dX10_copy_112 : decode cX10_copy 112 = .ok (.iconst 2, 1) := by decide +kernel
theorem dX10_copy_113 : decode cX10_copy 113 = .ok (.invokevirtual 76, 3) := by decide +kernel
theorem dX10_copy_116 : decode cX10_copy 116 = .ok (.ireturn, 1) := by decide +kernel
theorem dX10_copy_117 : decode cX10_copy 117 = .ok (.iconst 0, 1) := by decide +kernel
theorem dX10_copy_118 : decode cX10_copy 118 = .ok (.istore 6, 2) := by decide +kernel
theorem dX10_copy_120 : decode cX10_copy 120 = .ok (.iload 6, 2) := by decide +kernel
theorem dX10_copy_122 : decode cX10_copy 122 = .ok (.iload 5, 2) := by decide +kernel
theorem dX10_copy_124 : decode cX10_copy 124 = .ok (.if_icmp .ge 30, 3) := by decide +kernel
theorem dX10_copy_127 : decode cX10_copy 127 = .ok (.aload_n 0, 1) := by decide +kernel
theorem dX10_copy_128 : decode cX10_copy 128 = .ok (.getfield 19, 3) := by decide +kernel
theorem dX10_copy_131 : decode cX10_copy 131 = .ok (.iload 6, 2) := by decide +kernel
theorem dX10_copy_133 : decode cX10_copy 133 = .ok (.aload_n 0, 1) := by decide +kernel
theorem dX10_copy_134 : decode cX10_copy 134 = .ok (.getfield 16, 3) := by decide +kernel
theorem dX10_copy_137 : decode cX10_copy 137 = .ok (.bipush 60, 2) := by decide +kernel
theorem dX10_copy_139 : decode cX10_copy 139 = .ok (.iload_n 1, 1) := by decide +kernel
theorem dX10_copy_140 : decode cX10_copy 140 = .ok (.imul, 1) := by decide +kernel
theorem dX10_copy_141 : decode cX10_copy 141 = .ok (.iload_n 2, 1) := by decide +kernel
theorem dX10_copy_142 : decode cX10_copy 142 = .ok (.iadd, 1) := by decide +kernel
theorem dX10_copy_143 : decode cX10_copy 143 = .ok (.iload 6, 2) := by decide +kernel
theorem dX10_copy_145 : decode cX10_copy 145 = .ok (.iadd, 1) := by decide +kernel
theorem dX10_copy_146 : decode cX10_copy 146 = .ok (.iaload, 1) := by decide +kernel
theorem dX10_copy_147 : decode cX10_copy 147 = .ok (.iastore, 1) := by decide +kernel
theorem dX10_copy_148 : decode cX10_copy 148 = .ok (.iinc 6 1, 3) := by decide +kernel
theorem dX10_copy_151 : decode cX10_copy 151 = .ok (.goto (-31), 3) := by decide +kernel
theorem dX10_copy_154 : decode cX10_copy 154 = .ok (.iconst 0, 1) := by decide +kernel
theorem dX10_copy_155 : decode cX10_copy 155 = .ok (.istore 6, 2) := by decide +kernel
theorem dX10_copy_157 : decode cX10_copy 157 = .ok (.iload 6, 2) := by decide +kernel
theorem dX10_copy_159 : decode cX10_copy 159 = .ok (.iload 5, 2) := by decide +kernel
theorem dX10_copy_161 : decode cX10_copy 161 = .ok (.if_icmp .ge 31, 3) := by decide +kernel
theorem dX10_copy_164 : decode cX10_copy 164 = .ok (.aload_n 0, 1) := by decide +kernel
theorem dX10_copy_165 : decode cX10_copy 165 = .ok (.getfield 16, 3) := by decide +kernel
theorem dX10_copy_168 : decode cX10_copy 168 = .ok (.bipush 60, 2) := by decide +kernel
theorem dX10_copy_170 : decode cX10_copy 170 = .ok (.iload_n 3, 1) := by decide +kernel
theorem dX10_copy_171 : decode cX10_copy 171 = .ok (.imul, 1) := by decide +kernel
theorem dX10_copy_172 : decode cX10_copy 172 = .ok (.iload 4, 2) := by decide +kernel
theorem dX10_copy_174 : decode cX10_copy 174 = .ok (.iadd, 1) := by decide +kernel
theorem dX10_copy_175 : decode cX10_copy 175 = .ok (.iload 6, 2) := by decide +kernel
theorem dX10_copy_177 : decode cX10_copy 177 = .ok (.iadd, 1) := by decide +kernel
theorem dX10_copy_178 : decode cX10_copy 178 = .ok (.aload_n 0, 1) := by decide +kernel
theorem dX10_copy_179 : decode cX10_copy 179 = .ok (.getfield 19, 3) := by decide +kernel
theorem dX10_copy_182 : decode cX10_copy 182 = .ok (.iload 6, 2) := by decide +kernel
theorem dX10_copy_184 : decode cX10_copy 184 = .ok (.iaload, 1) := by decide +kernel
theorem dX10_copy_185 : decode cX10_copy 185 = .ok (.iastore, 1) := by decide +kernel
theorem dX10_copy_186 : decode cX10_copy 186 = .ok (.iinc 6 1, 3) := by decide +kernel
theorem dX10_copy_189 : decode cX10_copy 189 = .ok (.goto (-32), 3) := by decide +kernel
theorem dX10_copy_192 : decode cX10_copy 192 = .ok (.iconst 1, 1) := by decide +kernel
theorem dX10_copy_193 : decode cX10_copy 193 = .ok (.ireturn, 1) := by decide +kernel
theorem dX10_type_0 : decode cX10_type 0 = .ok (.iload_n 1, 1) := by decide +kernel
theorem dX10_type_1 : decode cX10_type 1 = .ok (.invokestatic 89, 3) := by decide +kernel
theorem dX10_type_4 : decode cX10_type 4 = .ok (.ifCond .eq 15, 3) := by decide +kernel
theorem dX10_type_7 : decode cX10_type 7 = .ok (.iload_n 2, 1) := by decide +kernel
theorem dX10_type_8 : decode cX10_type 8 = .ok (.i2l, 1) := by decide +kernel
theorem dX10_type_9 : decode cX10_type 9 = .ok (.lconst 0, 1) := by decide +kernel
theorem dX10_type_10 : decode cX10_type 10 = .ok (.ldc2_w 92, 3) := by decide +kernel
theorem dX10_type_13 : decode cX10_type 13 = .ok (.invokestatic 60, 3) := by decide +kernel
theorem dX10_type_16 : decode cX10_type 16 = .ok (.ifCond .ne 6, 3) := by decide +kernel
theorem dX10_type_19 : decode cX10_type 19 = .ok (.bipush (-2), 2) := by decide +kernel
theorem dX10_type_21 : decode cX10_type 21 = .ok (.ireturn, 1) := by decide +kernel
theorem dX10_type_22 : decode cX10_type 22 = .ok (.aload_n 0, 1) := by decide +kernel
theorem dX10_type_23 : decode cX10_type 23 = .ok (.getfield 25, 3) := by decide +kernel
theorem dX10_type_26 : decode cX10_type 26 = .ok (.iload_n 1, 1) := by decide +kernel
theorem dX10_type_27 : decode cX10_type 27 = .ok (.iaload, 1) := by decide +kernel
theorem dX10_type_28 : decode cX10_type 28 = .ok (.iload_n 1, 1) := by decide +kernel
theorem dX10_type_29 : decode cX10_type 29 = .ok (.ifCond .ne 8, 3) := by decide +kernel
theorem dX10_type_32 : decode cX10_type 32 = .ok (.bipush 31, 2) := by decide +kernel
theorem dX10_type_34 : decode cX10_type 34 = .ok (.goto 5, 3) := by decide +kernel
theorem dX10_type_37 : decode cX10_type 37 = .ok (.bipush 47, 2) := by decide +kernel
theorem dX10_type_39 : decode cX10_type 39 = .ok (.if_icmp .ne 6, 3) := by decide +kernel
theorem dX10_type_42 : decode cX10_type 42 = .ok (.bipush (-4), 2) := by decide +kernel
theorem dX10_type_44 : decode cX10_type 44 = .ok (.ireturn, 1) := by decide +kernel
theorem dX10_type_45 : decode cX10_type 45 = .ok (.aload_n 0, 1) := by decide +kernel
theorem dX10_type_46 : decode cX10_type 46 = .ok (.getfield 22, 3) := by decide +kernel
theorem dX10_type_49 : decode cX10_type 49 = .ok (.bipush 48, 2) := by decide +kernel
theorem dX10_type_51 : decode cX10_type 51 = .ok (.iload_n 1, 1) := by decide +kernel
theorem dX10_type_52 : decode cX10_type 52 = .ok (.imul, 1) := by decide +kernel
theorem dX10_type_53 : decode cX10_type 53 = .ok (.aload_n 0, 1) := by decide +kernel
theorem dX10_type_54 : decode cX10_type 54 = .ok (.getfield 25, 3) := by decide +kernel
theorem dX10_type_57 : decode cX10_type 57 = .ok (.iload_n 1, 1) := by decide +kernel
theorem dX10_type_58 : decode cX10_type 58 = .ok (.iaload, 1) := by decide +kernel
theorem dX10_type_59 : decode cX10_type 59 = .ok (.iadd, 1) := by decide +kernel
theorem dX10_type_60 : decode cX10_type 60 = .ok (.iload_n 2, 1) := by decide +kernel
theorem dX10_type_61 : decode cX10_type 61 = .ok (.iastore, 1) := by decide +kernel
theorem dX10_type_62 : decode cX10_type 62 = .ok (.aload_n 0, 1) := by decide +kernel
theorem dX10_type_63 : decode cX10_type 63 = .ok (.getfield 25, 3) := by decide +kernel
theorem dX10_type_66 : decode cX10_type 66 = .ok (.iload_n 1, 1) := by decide +kernel
theorem dX10_type_67 : decode cX10_type 67 = .ok (.dup2, 1) := by decide +kernel
theorem dX10_type_68 : decode cX10_type 68 = .ok (.iaload, 1) := by decide +kernel
theorem dX10_type_69 : decode cX10_type 69 = .ok (.iconst 1, 1) := by decide +kernel
theorem dX10_type_70 : decode cX10_type 70 = .ok (.iadd, 1) := by decide +kernel
theorem dX10_type_71 : decode cX10_type 71 = .ok (.iastore, 1) := by decide +kernel
theorem dX10_type_72 : decode cX10_type 72 = .ok (.aload_n 0, 1) := by decide +kernel
theorem dX10_type_73 : decode cX10_type 73 = .ok (.getfield 25, 3) := by decide +kernel
theorem dX10_type_76 : decode cX10_type 76 = .ok (.iload_n 1, 1) := by decide +kernel
theorem dX10_type_77 : decode cX10_type 77 = .ok (.iaload, 1) := by decide +kernel
theorem dX10_type_78 : decode cX10_type 78 = .ok (.ireturn, 1) := by decide +kernel
theorem dX10_wipe_0 : decode cX10_wipe 0 = .ok (.iload_n 1, 1) := by decide +kernel
theorem dX10_wipe_1 : decode cX10_wipe 1 = .ok (.invokestatic 89, 3) := by decide +kernel
theorem dX10_wipe_4 : decode cX10_wipe 4 = .ok (.ifCond .ne 6, 3) := by decide +kernel
theorem dX10_wipe_7 : decode cX10_wipe 7 = .ok (.bipush (-2), 2) := by decide +kernel
theorem dX10_wipe_9 : decode cX10_wipe 9 = .ok (.ireturn, 1) := by decide +kernel
theorem dX10_wipe_10 : decode cX10_wipe 10 = .ok (.aload_n 0, 1) := by decide +kernel
theorem dX10_wipe_11 : decode cX10_wipe 11 = .ok (.getfield 25, 3) := by decide +kernel
theorem dX10_wipe_14 : decode cX10_wipe 14 = .ok (.iload_n 1, 1) := by decide +kernel
theorem dX10_wipe_15 : decode cX10_wipe 15 = .ok (.iaload, 1) := by decide +kernel
theorem dX10_wipe_16 : decode cX10_wipe 16 = .ok (.istore_n 2, 1) := by decide +kernel
theorem dX10_wipe_17 : decode cX10_wipe 17 = .ok (.aload_n 0, 1) := by decide +kernel
theorem dX10_wipe_18 : decode cX10_wipe 18 = .ok (.getfield 25, 3) := by decide +kernel
theorem dX10_wipe_21 : decode cX10_wipe 21 = .ok (.iload_n 1, 1) := by decide +kernel
theorem dX10_wipe_22 : decode cX10_wipe 22 = .ok (.iconst 0, 1) := by decide +kernel
theorem dX10_wipe_23 : decode cX10_wipe 23 = .ok (.iastore, 1) := by decide +kernel
theorem dX10_wipe_24 : decode cX10_wipe 24 = .ok (.iload_n 2, 1) := by decide +kernel
theorem dX10_wipe_25 : decode cX10_wipe 25 = .ok (.ireturn, 1) := by decide +kernel
theorem dX10_undo_0 : decode cX10_undo 0 = .ok (.iload_n 1, 1) := by decide +kernel
theorem dX10_undo_1 : decode cX10_undo 1 = .ok (.invokestatic 89, 3) := by decide +kernel
theorem dX10_undo_4 : decode cX10_undo 4 = .ok (.ifCond .ne 6, 3) := by decide +kernel
theorem dX10_undo_7 : decode cX10_undo 7 = .ok (.bipush (-2), 2) := by decide +kernel
theorem dX10_undo_9 : decode cX10_undo 9 = .ok (.ireturn, 1) := by decide +kernel
theorem dX10_undo_10 : decode cX10_undo 10 = .ok (.aload_n 0, 1) := by decide +kernel
theorem dX10_undo_11 : decode cX10_undo 11 = .ok (.getfield 25, 3) := by decide +kernel
theorem dX10_undo_14 : decode cX10_undo 14 = .ok (.iload_n 1, 1) := by decide +kernel
theorem dX10_undo_15 : decode cX10_undo 15 = .ok (.iaload, 1) := by decide +kernel
theorem dX10_undo_16 : decode cX10_undo 16 = .ok (.ifCond .ne 6, 3) := by decide +kernel
theorem dX10_undo_19 : decode cX10_undo 19 = .ok (.bipush (-3), 2) := by decide +kernel
theorem dX10_undo_21 : decode cX10_undo 21 = .ok (.ireturn, 1) := by decide +kernel
theorem dX10_undo_22 : decode cX10_undo 22 = .ok (.aload_n 0, 1) := by decide +kernel
theorem dX10_undo_23 : decode cX10_undo 23 = .ok (.getfield 25, 3) := by decide +kernel
theorem dX10_undo_26 : decode cX10_undo 26 = .ok (.iload_n 1, 1) := by decide +kernel
theorem dX10_undo_27 : decode cX10_undo 27 = .ok (.dup2, 1) := by decide +kernel
theorem dX10_undo_28 : decode cX10_undo 28 = .ok (.iaload, 1) := by decide +kernel
theorem dX10_undo_29 : decode cX10_undo 29 = .ok (.iconst 1, 1) := by decide +kernel
theorem dX10_undo_30 : decode cX10_undo 30 = .ok (.isub, 1) := by decide +kernel
theorem dX10_undo_31 : decode cX10_undo 31 = .ok (.iastore, 1) := by decide +kernel
theorem dX10_undo_32 : decode cX10_undo 32 = .ok (.aload_n 0, 1) := by decide +kernel
theorem dX10_undo_33 : decode cX10_undo 33 = .ok (.getfield 25, 3) := by decide +kernel
theorem dX10_undo_36 : decode cX10_undo 36 = .ok (.iload_n 1, 1) := by decide +kernel
theorem dX10_undo_37 : decode cX10_undo 37 = .ok (.iaload, 1) := by decide +kernel
theorem dX10_undo_38 : decode cX10_undo 38 = .ok (.ireturn, 1) := by decide +kernel
theorem dX10_figureOf_0 : decode cX10_figureOf 0 = .ok (.iload_n 0, 1) := by decide +kernel
theorem dX10_figureOf_1 : decode cX10_figureOf 1 = .ok (.i2l, 1) := by decide +kernel
theorem dX10_figureOf_2 : decode cX10_figureOf 2 = .ok (.bipush 48, 2) := by decide +kernel
theorem dX10_figureOf_4 : decode cX10_figureOf 4 = .ok (.iload_n 1, 1) := by decide +kernel
theorem dX10_figureOf_5 : decode cX10_figureOf 5 = .ok (.iadd, 1) := by decide +kernel
theorem dX10_figureOf_6 : decode cX10_figureOf 6 = .ok (.i2l, 1) := by decide +kernel
theorem dX10_figureOf_7 : decode cX10_figureOf 7 = .ok (.bipush 48, 2) := by decide +kernel
theorem dX10_figureOf_9 : decode cX10_figureOf 9 = .ok (.iload_n 2, 1) := by decide +kernel
theorem dX10_figureOf_10 : decode cX10_figureOf 10 = .ok (.iadd, 1) := by decide +kernel
theorem dX10_figureOf_11 : decode cX10_figureOf 11 = .ok (.i2l, 1) := by decide +kernel
theorem dX10_figureOf_12 : decode cX10_figureOf 12 = .ok (.invokestatic 60, 3) := by decide +kernel
theorem dX10_figureOf_15 : decode cX10_figureOf 15 = .ok (.ifCond .eq 10, 3) := by decide +kernel
theorem dX10_figureOf_18 : decode cX10_figureOf 18 = .ok (.iload_n 0, 1) := by decide +kernel
theorem dX10_figureOf_19 : decode cX10_figureOf 19 = .ok (.bipush 48, 2) := by decide +kernel
theorem dX10_figureOf_21 : decode cX10_figureOf 21 = .ok (.isub, 1) := by decide +kernel
theorem dX10_figureOf_22 : decode cX10_figureOf 22 = .ok (.goto 5, 3) := by decide +kernel
theorem dX10_figureOf_25 : decode cX10_figureOf 25 = .ok (.bipush (-9), 2) := by decide +kernel
theorem dX10_figureOf_27 : decode cX10_figureOf 27 = .ok (.ireturn, 1) := by decide +kernel
theorem dX10_houseOf_0 : decode cX10_houseOf 0 = .ok (.iload_n 0, 1) := by decide +kernel
theorem dX10_houseOf_1 : decode cX10_houseOf 1 = .ok (.tableswitch 86 0 2 #[27, 70, 78], 27) := by decide +kernel
theorem dX10_houseOf_28 : decode cX10_houseOf 28 = .ok (.iload_n 1, 1) := by decide +kernel
theorem dX10_houseOf_29 : decode cX10_houseOf 29 = .ok (.bipush 112, 2) := by decide +kernel
theorem dX10_houseOf_31 : decode cX10_houseOf 31 = .ok (.if_icmp .ne 7, 3) := by decide +kernel
theorem dX10_houseOf_34 : decode cX10_houseOf 34 = .ok (.iconst 0, 1) := by decide +kernel
theorem dX10_houseOf_35 : decode cX10_houseOf 35 = .ok (.goto 35, 3) := by decide +kernel
theorem dX10_houseOf_38 : decode cX10_houseOf 38 = .ok (.iload_n 1, 1) := by decide +kernel
theorem dX10_houseOf_39 : decode cX10_houseOf 39 = .ok (.bipush 115, 2) := by decide +kernel
theorem dX10_houseOf_41 : decode cX10_houseOf 41 = .ok (.if_icmp .ne 7, 3) := by decide +kernel
theorem dX10_houseOf_44 : decode cX10_houseOf 44 = .ok (.iconst 1, 1) := by decide +kernel
theorem dX10_houseOf_45 : decode cX10_houseOf 45 = .ok (.goto 25, 3) := by decide +kernel
theorem dX10_houseOf_48 : decode cX10_houseOf 48 = .ok (.iload_n 1, 1) := by decide +kernel
theorem dX10_houseOf_49 : decode cX10_houseOf 49 = .ok (.bipush 119, 2) := by decide +kernel
theorem dX10_houseOf_51 : decode cX10_houseOf 51 = .ok (.if_icmp .ne 7, 3) := by decide +kernel
theorem dX10_houseOf_54 : decode cX10_houseOf 54 = .ok (.iconst 2, 1) := by decide +kernel
theorem dX10_houseOf_55 : decode cX10_houseOf 55 = .ok (.goto 15, 3) := by decide +kernel
theorem dX10_houseOf_58 : decode cX10_houseOf 58 = .ok (.iload_n 1, 1) := by decide +kernel
theorem dX10_houseOf_59 : decode cX10_houseOf 59 = .ok (.bipush 118, 2) := by decide +kernel
theorem dX10_houseOf_61 : decode cX10_houseOf 61 = .ok (.if_icmp .ne 7, 3) := by decide +kernel
theorem dX10_houseOf_64 : decode cX10_houseOf 64 = .ok (.iconst 3, 1) := by decide +kernel
theorem dX10_houseOf_65 : decode cX10_houseOf 65 = .ok (.goto 5, 3) := by decide +kernel
theorem dX10_houseOf_68 : decode cX10_houseOf 68 = .ok (.bipush (-9), 2) := by decide +kernel
theorem dX10_houseOf_70 : decode cX10_houseOf 70 = .ok (.ireturn, 1) := by decide +kernel
theorem dX10_houseOf_71 : decode cX10_houseOf 71 = .ok (.iload_n 1, 1) := by decide +kernel
theorem dX10_houseOf_72 : decode cX10_houseOf 72 = .ok (.iconst 1, 1) := by decide +kernel
theorem dX10_houseOf_73 : decode cX10_houseOf 73 = .ok (.bipush 9, 2) := by decide +kernel
theorem dX10_houseOf_75 : decode cX10_houseOf 75 = .ok (.invokestatic 94, 3) := by decide +kernel
theorem dX10_houseOf_78 : decode cX10_houseOf 78 = .ok (.ireturn, 1) := by decide +kernel
theorem dX10_houseOf_79 : decode cX10_houseOf 79 = .ok (.iload_n 1, 1) := by decide +kernel
theorem dX10_houseOf_80 : decode cX10_houseOf 80 = .ok (.iconst 0, 1) := by decide +kernel
theorem dX10_houseOf_81 : decode cX10_houseOf 81 = .ok (.bipush 9, 2) := by decide +kernel
theorem dX10_houseOf_83 : decode cX10_houseOf 83 = .ok (.invokestatic 94, 3) := by decide +kernel
theorem dX10_houseOf_86 : decode cX10_houseOf 86 = .ok (.ireturn, 1) := by decide +kernel
theorem dX10_houseOf_87 : decode cX10_houseOf 87 = .ok (.iload_n 1, 1) := by decide +kernel
theorem dX10_houseOf_88 : decode cX10_houseOf 88 = .ok (.bipush 59, 2) := by decide +kernel
theorem dX10_houseOf_90 : decode cX10_houseOf 90 = .ok (.if_icmp .ne 7, 3) := by decide +kernel
theorem dX10_houseOf_93 : decode cX10_houseOf 93 = .ok (.iconst 0, 1) := by decide +kernel
theorem dX10_houseOf_94 : decode cX10_houseOf 94 = .ok (.goto 5, 3) := by decide +kernel
theorem dX10_houseOf_97 : decode cX10_houseOf 97 = .ok (.bipush (-9), 2) := by decide +kernel
theorem dX10_houseOf_99 : decode cX10_houseOf 99 = .ok (.ireturn, 1) := by decide +kernel
theorem dX10_readsHouses_0 : decode cX10_readsHouses 0 = .ok (.aload_n 0, 1) := by decide +kernel
theorem dX10_readsHouses_1 : decode cX10_readsHouses 1 = .ok (.iconst 0, 1) := by decide +kernel
theorem dX10_readsHouses_2 : decode cX10_readsHouses 2 = .ok (.putfield 97, 3) := by decide +kernel
theorem dX10_readsHouses_5 : decode cX10_readsHouses 5 = .ok (.aload_n 0, 1) := by decide +kernel
theorem dX10_readsHouses_6 : decode cX10_readsHouses 6 = .ok (.getfield 25, 3) := by decide +kernel
theorem dX10_readsHouses_9 : decode cX10_readsHouses 9 = .ok (.iconst 0, 1) := by decide +kernel
theorem dX10_readsHouses_10 : decode cX10_readsHouses 10 = .ok (.iaload, 1) := by decide +kernel
theorem dX10_readsHouses_11 : decode cX10_readsHouses 11 = .ok (.istore_n 1, 1) := by decide +kernel
theorem dX10_readsHouses_12 : decode cX10_readsHouses 12 = .ok (.iconst 0, 1) := by decide +kernel
theorem dX10_readsHouses_13 : decode cX10_readsHouses 13 = .ok (.istore_n 2, 1) := by decide +kernel
theorem dX10_readsHouses_14 : decode cX10_readsHouses 14 = .ok (.iload_n 2, 1) := by decide +kernel
theorem dX10_readsHouses_15 : decode cX10_readsHouses 15 = .ok (.iload_n 1, 1) := by decide +kernel
theorem dX10_readsHouses_16 : decode cX10_readsHouses 16 = .ok (.if_icmp .ge 77, 3) := by decide +kernel
theorem dX10_readsHouses_19 : decode cX10_readsHouses 19 = .ok (.iload_n 2, 1) := by decide +kernel
theorem dX10_readsHouses_20 : decode cX10_readsHouses 20 = .ok (.iconst 4, 1) := by decide +kernel
theorem dX10_readsHouses_21 : decode cX10_readsHouses 21 = .ok (.irem, 1) := by decide +kernel
theorem dX10_readsHouses_22 : decode cX10_readsHouses 22 = .ok (.istore_n 3, 1) := by decide +kernel
theorem dX10_readsHouses_23 : decode cX10_readsHouses 23 = .ok (.iload_n 3, 1) := by decide +kernel
theorem dX10_readsHouses_24 : decode cX10_readsHouses 24 = .ok (.aload_n 0, 1) := by decide +kernel
theorem dX10_readsHouses_25 : decode cX10_readsHouses 25 = .ok (.getfield 22, 3) := by decide +kernel
theorem dX10_readsHouses_28 : decode cX10_readsHouses 28 = .ok (.iload_n 2, 1) := by decide +kernel
theorem dX10_readsHouses_29 : decode cX10_readsHouses 29 = .ok (.iaload, 1) := by decide +kernel
theorem dX10_readsHouses_30 : decode cX10_readsHouses 30 = .ok (.invokestatic 100, 3) := by decide +kernel
theorem dX10_readsHouses_33 : decode cX10_readsHouses 33 = .ok (.istore 4, 2) := by decide +kernel
theorem dX10_readsHouses_35 : decode cX10_readsHouses 35 = .ok (.iload 4, 2) := by decide +kernel
theorem dX10_readsHouses_37 : decode cX10_readsHouses 37 = .ok (.bipush (-9), 2) := by decide +kernel
theorem dX10_readsHouses_39 : decode cX10_readsHouses 39 = .ok (.if_icmp .ne 10, 3) := by decide +kernel
theorem dX10_readsHouses_42 : decode cX10_readsHouses 42 = .ok (.aload_n 0, 1) := by decide +kernel
theorem dX10_readsHouses_43 : decode cX10_readsHouses 43 = .ok (.iconst 0, 1) := by decide +kernel
theorem dX10_readsHouses_44 : decode cX10_readsHouses 44 = .ok (.putfield 97, 3) := by decide +kernel
theorem dX10_readsHouses_47 : decode cX10_readsHouses 47 = .ok (.iload_n 2, 1) := by decide +kernel
theorem dX10_readsHouses_48 : decode cX10_readsHouses 48 = .ok (.ireturn, 1) := by decide +kernel
theorem dX10_readsHouses_49 : decode cX10_readsHouses 49 = .ok (.iload_n 3, 1) := by decide +kernel
theorem dX10_readsHouses_50 : decode cX10_readsHouses 50 = .ok (.iconst 3, 1) := by decide +kernel
theorem dX10_readsHouses_51 : decode cX10_readsHouses 51 = .ok (.if_icmp .ge 17, 3) := by decide +kernel
theorem dX10_readsHouses_54 : decode cX10_readsHouses 54 = .ok (.aload_n 0, 1) := by decide +kernel
theorem dX10_readsHouses_55 : decode cX10_readsHouses 55 = .ok (.getfield 28, 3) := by decide +kernel
theorem dX10_readsHouses_58 : decode cX10_readsHouses 58 = .ok (.iconst 3, 1) := by decide +kernel
theorem dX10_readsHouses_59 : decode cX10_readsHouses 59 = .ok (.iload_n 2, 1) := by decide +kernel
theorem dX10_readsHouses_60 : decode cX10_readsHouses 60 = .ok (.iconst 4, 1) := by decide +kernel
theorem dX10_readsHouses_61 : decode cX10_readsHouses 61 = .ok (.idiv, 1) := by decide +kernel
theorem dX10_readsHouses_62 : decode cX10_readsHouses 62 = .ok (.imul, 1) := by decide +kernel
theorem dX10_readsHouses_63 : decode cX10_readsHouses 63 = .ok (.iload_n 3, 1) := by decide +kernel
theorem dX10_readsHouses_64 : decode cX10_readsHouses 64 = .ok (.iadd, 1) := by decide +kernel
theorem dX10_readsHouses_65 : decode cX10_readsHouses 65 = .ok (.iload 4, 2) := by decide +kernel
theorem dX10_readsHouses_67 : decode cX10_readsHouses 67 = .ok (.iastore, 1) := by decide +kernel
theorem dX10_readsHouses_68 : decode cX10_readsHouses 68 = .ok (.aload_n 0, 1) := by decide +kernel
theorem dX10_readsHouses_69 : decode cX10_readsHouses 69 = .ok (.dup, 1) := by decide +kernel
theorem dX10_readsHouses_70 : decode cX10_readsHouses 70 = .ok (.getfield 97, 3) := by decide +kernel
theorem dX10_readsHouses_73 : decode cX10_readsHouses 73 = .ok (.iload_n 3, 1) := by decide +kernel
theorem dX10_readsHouses_74 : decode cX10_readsHouses 74 = .ok (.iconst 2, 1) := by decide +kernel
theorem dX10_readsHouses_75 : decode cX10_readsHouses 75 = .ok (.if_icmp .ne 7, 3) := by decide +kernel
theorem dX10_readsHouses_78 : decode cX10_readsHouses 78 = .ok (.iconst 1, 1) := by decide +kernel
theorem dX10_readsHouses_79 : decode cX10_readsHouses 79 = .ok (.goto 4, 3) := by decide +kernel
theorem dX10_readsHouses_82 : decode cX10_readsHouses 82 = .ok (.iconst 0, 1) := by decide +kernel
theorem dX10_readsHouses_83 : decode cX10_readsHouses 83 = .ok (.iadd, 1) := by decide +kernel
theorem dX10_readsHouses_84 : decode cX10_readsHouses 84 = .ok (.putfield 97, 3) := by decide +kernel
theorem dX10_readsHouses_87 : decode cX10_readsHouses 87 = .ok (.iinc 2 1, 3) := by decide +kernel
theorem dX10_readsHouses_90 : decode cX10_readsHouses 90 = .ok (.goto (-76), 3) := by decide +kernel
theorem dX10_readsHouses_93 : decode cX10_readsHouses 93 = .ok (.iload_n 1, 1) := by decide +kernel
theorem dX10_readsHouses_94 : decode cX10_readsHouses 94 = .ok (.ifCond .le 17, 3) := by decide +kernel
theorem dX10_readsHouses_97 : decode cX10_readsHouses 97 = .ok (.iload_n 1, 1) := by decide +kernel
theorem dX10_readsHouses_98 : decode cX10_readsHouses 98 = .ok (.iconst 4, 1) := by decide +kernel
theorem dX10_readsHouses_99 : decode cX10_readsHouses 99 = .ok (.irem, 1) := by decide +kernel
theorem dX10_readsHouses_100 : decode cX10_readsHouses 100 = .ok (.iconst 3, 1) := by decide +kernel
theorem dX10_readsHouses_101 : decode cX10_readsHouses 101 = .ok (.if_icmp .eq 10, 3) := by decide +kernel
theorem dX10_readsHouses_104 : decode cX10_readsHouses 104 = .ok (.aload_n 0, 1) := by decide +kernel
theorem dX10_readsHouses_105 : decode cX10_readsHouses 105 = .ok (.iconst 0, 1) := by decide +kernel
theorem dX10_readsHouses_106 : decode cX10_readsHouses 106 = .ok (.putfield 97, 3) := by decide +kernel
theorem dX10_readsHouses_109 : decode cX10_readsHouses 109 = .ok (.iload_n 1, 1) := by decide +kernel
theorem dX10_readsHouses_110 : decode cX10_readsHouses 110 = .ok (.ireturn, 1) := by decide +kernel
theorem dX10_readsHouses_111 : decode cX10_readsHouses 111 = .ok (.iconst (-1), 1) := by decide +kernel
theorem dX10_readsHouses_112 : decode cX10_readsHouses 112 = .ok (.ireturn, 1) := by decide +kernel
theorem dX10_guestOf_0 : decode cX10_guestOf 0 = .ok (.iload_n 0, 1) := by decide +kernel
theorem dX10_guestOf_1 : decode cX10_guestOf 1 = .ok (.tableswitch 75 2 5 #[31, 39, 75, 62], 31) := by decide +kernel
theorem dX10_guestOf_32 : decode cX10_guestOf 32 = .ok (.iload_n 1, 1) := by decide +kernel
theorem dX10_guestOf_33 : decode cX10_guestOf 33 = .ok (.iconst 0, 1) := by decide +kernel
theorem dX10_guestOf_34 : decode cX10_guestOf 34 = .ok (.bipush 7, 2) := by decide +kernel
theorem dX10_guestOf_36 : decode cX10_guestOf 36 = .ok (.invokestatic 94, 3) := by decide +kernel
theorem dX10_guestOf_39 : decode cX10_guestOf 39 = .ok (.ireturn, 1) := by decide +kernel
theorem dX10_guestOf_40 : decode cX10_guestOf 40 = .ok (.iload_n 1, 1) := by decide +kernel
theorem dX10_guestOf_41 : decode cX10_guestOf 41 = .ok (.bipush 100, 2) := by decide +kernel
theorem dX10_guestOf_43 : decode cX10_guestOf 43 = .ok (.if_icmp .ne 7, 3) := by decide +kernel
theorem dX10_guestOf_46 : decode cX10_guestOf 46 = .ok (.iconst 1, 1) := by decide +kernel
theorem dX10_guestOf_47 : decode cX10_guestOf 47 = .ok (.goto 15, 3) := by decide +kernel
theorem dX10_guestOf_50 : decode cX10_guestOf 50 = .ok (.iload_n 1, 1) := by decide +kernel
theorem dX10_guestOf_51 : decode cX10_guestOf 51 = .ok (.bipush 117, 2) := by decide +kernel
theorem dX10_guestOf_53 : decode cX10_guestOf 53 = .ok (.if_icmp .ne 7, 3) := by decide +kernel
theorem dX10_guestOf_56 : decode cX10_guestOf 56 = .ok (.iconst 0, 1) := by decide +kernel
theorem dX10_guestOf_57 : decode cX10_guestOf 57 = .ok (.goto 5, 3) := by decide +kernel
theorem dX10_guestOf_60 : decode cX10_guestOf 60 = .ok (.bipush (-9), 2) := by decide +kernel
theorem dX10_guestOf_62 : decode cX10_guestOf 62 = .ok (.ireturn, 1) := by decide +kernel
theorem dX10_guestOf_63 : decode cX10_guestOf 63 = .ok (.iload_n 1, 1) := by decide +kernel
theorem dX10_guestOf_64 : decode cX10_guestOf 64 = .ok (.bipush 59, 2) := by decide +kernel
theorem dX10_guestOf_66 : decode cX10_guestOf 66 = .ok (.if_icmp .ne 7, 3) := by decide +kernel
theorem dX10_guestOf_69 : decode cX10_guestOf 69 = .ok (.iconst 0, 1) := by decide +kernel
theorem dX10_guestOf_70 : decode cX10_guestOf 70 = .ok (.goto 5, 3) := by decide +kernel
theorem dX10_guestOf_73 : decode cX10_guestOf 73 = .ok (.bipush (-9), 2) := by decide +kernel
theorem dX10_guestOf_75 : decode cX10_guestOf 75 = .ok (.ireturn, 1) := by decide +kernel
theorem dX10_guestOf_76 : decode cX10_guestOf 76 = .ok (.iload_n 1, 1) := by decide +kernel
theorem dX10_guestOf_77 : decode cX10_guestOf 77 = .ok (.iconst 0, 1) := by decide +kernel
theorem dX10_guestOf_78 : decode cX10_guestOf 78 = .ok (.bipush 9, 2) := by decide +kernel
theorem dX10_guestOf_80 : decode cX10_guestOf 80 = .ok (.invokestatic 94, 3) := by decide +kernel
theorem dX10_guestOf_83 : decode cX10_guestOf 83 = .ok (.ireturn, 1) := by decide +kernel
theorem dX10_tellsGuest_0 : decode cX10_tellsGuest 0 = .ok (.iload_n 2, 1) := by decide +kernel
theorem dX10_tellsGuest_1 : decode cX10_tellsGuest 1 = .ok (.ifCond .ne 16, 3) := by decide +kernel
theorem dX10_tellsGuest_4 : decode cX10_tellsGuest 4 = .ok (.aload_n 0, 1) := by decide +kernel
theorem dX10_tellsGuest_5 : decode cX10_tellsGuest 5 = .ok (.getfield 31, 3) := by decide +kernel
theorem dX10_tellsGuest_8 : decode cX10_tellsGuest 8 = .ok (.iload_n 1, 1) := by decide +kernel
theorem dX10_tellsGuest_9 : decode cX10_tellsGuest 9 = .ok (.bipush 10, 2) := by decide +kernel
theorem dX10_tellsGuest_11 : decode cX10_tellsGuest 11 = .ok (.iload_n 3, 1) := by decide +kernel
theorem dX10_tellsGuest_12 : decode cX10_tellsGuest 12 = .ok (.imul, 1) := by decide +kernel
theorem dX10_tellsGuest_13 : decode cX10_tellsGuest 13 = .ok (.iastore, 1) := by decide +kernel
theorem dX10_tellsGuest_14 : decode cX10_tellsGuest 14 = .ok (.goto 37, 3) := by decide +kernel
theorem dX10_tellsGuest_17 : decode cX10_tellsGuest 17 = .ok (.iload_n 2, 1) := by decide +kernel
theorem dX10_tellsGuest_18 : decode cX10_tellsGuest 18 = .ok (.iconst 1, 1) := by decide +kernel
theorem dX10_tellsGuest_19 : decode cX10_tellsGuest 19 = .ok (.if_icmp .ne 16, 3) := by decide +kernel
theorem dX10_tellsGuest_22 : decode cX10_tellsGuest 22 = .ok (.aload_n 0, 1) := by decide +kernel
theorem dX10_tellsGuest_23 : decode cX10_tellsGuest 23 = .ok (.getfield 31, 3) := by decide +kernel
theorem dX10_tellsGuest_26 : decode cX10_tellsGuest 26 = .ok (.iload_n 1, 1) := by decide +kernel
theorem dX10_tellsGuest_27 : decode cX10_tellsGuest 27 = .ok (.dup2, 1) := by decide +kernel
theorem dX10_tellsGuest_28 : decode cX10_tellsGuest 28 = .ok (.iaload, 1) := by decide +kernel
theorem dX10_tellsGuest_29 : decode cX10_tellsGuest 29 = .ok (.iload_n 3, 1) := by decide +kernel
theorem dX10_tellsGuest_30 : decode cX10_tellsGuest 30 = .ok (.iadd, 1) := by decide +kernel
theorem dX10_tellsGuest_31 : decode cX10_tellsGuest 31 = .ok (.iastore, 1) := by decide +kernel
theorem dX10_tellsGuest_32 : decode cX10_tellsGuest 32 = .ok (.goto 19, 3) := by decide +kernel
theorem dX10_tellsGuest_35 : decode cX10_tellsGuest 35 = .ok (.iload_n 2, 1) := by decide +kernel
theorem dX10_tellsGuest_36 : decode cX10_tellsGuest 36 = .ok (.iconst 5, 1) := by decide +kernel
theorem dX10_tellsGuest_37 : decode cX10_tellsGuest 37 = .ok (.if_icmp .ge 14, 3) := by decide +kernel
theorem dX10_tellsGuest_40 : decode cX10_tellsGuest 40 = .ok (.aload_n 0, 1) := by decide +kernel
theorem dX10_tellsGuest_41 : decode cX10_tellsGuest 41 = .ok (.getfield 31, 3) := by decide +kernel
theorem dX10_tellsGuest_44 : decode cX10_tellsGuest 44 = .ok (.iload_n 1, 1) := by decide +kernel
theorem dX10_tellsGuest_45 : decode cX10_tellsGuest 45 = .ok (.iload_n 2, 1) := by decide +kernel
theorem dX10_tellsGuest_46 : decode cX10_tellsGuest 46 = .ok (.iadd, 1) := by decide +kernel
theorem dX10_tellsGuest_47 : decode cX10_tellsGuest 47 = .ok (.iconst 1, 1) := by decide +kernel
theorem dX10_tellsGuest_48 : decode cX10_tellsGuest 48 = .ok (.isub, 1) := by decide +kernel
theorem dX10_tellsGuest_49 : decode cX10_tellsGuest 49 = .ok (.iload_n 3, 1) := by decide +kernel
theorem dX10_tellsGuest_50 : decode cX10_tellsGuest 50 = .ok (.iastore, 1) := by decide +kernel
theorem dX10_tellsGuest_51 : decode cX10_tellsGuest 51 = .ok (.return_, 1) := by decide +kernel
theorem dX10_readsGuests_0 : decode cX10_readsGuests 0 = .ok (.aload_n 0, 1) := by decide +kernel
theorem dX10_readsGuests_1 : decode cX10_readsGuests 1 = .ok (.iconst 0, 1) := by decide +kernel
theorem dX10_readsGuests_2 : decode cX10_readsGuests 2 = .ok (.putfield 103, 3) := by decide +kernel
theorem dX10_readsGuests_5 : decode cX10_readsGuests 5 = .ok (.aload_n 0, 1) := by decide +kernel
theorem dX10_readsGuests_6 : decode cX10_readsGuests 6 = .ok (.getfield 25, 3) := by decide +kernel
theorem dX10_readsGuests_9 : decode cX10_readsGuests 9 = .ok (.iconst 1, 1) := by decide +kernel
theorem dX10_readsGuests_10 : decode cX10_readsGuests 10 = .ok (.iaload, 1) := by decide +kernel
theorem dX10_readsGuests_11 : decode cX10_readsGuests 11 = .ok (.istore_n 1, 1) := by decide +kernel
theorem dX10_readsGuests_12 : decode cX10_readsGuests 12 = .ok (.iconst 0, 1) := by decide +kernel
theorem dX10_readsGuests_13 : decode cX10_readsGuests 13 = .ok (.istore_n 2, 1) := by decide +kernel
theorem dX10_readsGuests_14 : decode cX10_readsGuests 14 = .ok (.iload_n 2, 1) := by decide +kernel
theorem dX10_readsGuests_15 : decode cX10_readsGuests 15 = .ok (.iload_n 1, 1) := by decide +kernel
theorem dX10_readsGuests_16 : decode cX10_readsGuests 16 = .ok (.if_icmp .ge 75, 3) := by decide +kernel
theorem dX10_readsGuests_19 : decode cX10_readsGuests 19 = .ok (.iload_n 2, 1) := by decide +kernel
theorem dX10_readsGuests_20 : decode cX10_readsGuests 20 = .ok (.bipush 6, 2) := by decide +kernel
theorem dX10_readsGuests_22 : decode cX10_readsGuests 22 = .ok (.irem, 1) := by decide +kernel
theorem dX10_readsGuests_23 : decode cX10_readsGuests 23 = .ok (.istore_n 3, 1) := by decide +kernel
theorem dX10_readsGuests_24 : decode cX10_readsGuests 24 = .ok (.iload_n 3, 1) := by decide +kernel
theorem dX10_readsGuests_25 : decode cX10_readsGuests 25 = .ok (.aload_n 0, 1) := by decide +kernel
theorem dX10_readsGuests_26 : decode cX10_readsGuests 26 = .ok (.getfield 22, 3) := by decide +kernel
theorem dX10_readsGuests_29 : decode cX10_readsGuests 29 = .ok (.bipush 48, 2) := by decide +kernel
theorem dX10_readsGuests_31 : decode cX10_readsGuests 31 = .ok (.iload_n 2, 1) := by decide +kernel
theorem dX10_readsGuests_32 : decode cX10_readsGuests 32 = .ok (.iadd, 1) := by decide +kernel
theorem dX10_readsGuests_33 : decode cX10_readsGuests 33 = .ok (.iaload, 1) := by decide +kernel
theorem dX10_readsGuests_34 : decode cX10_readsGuests 34 = .ok (.invokestatic 106, 3) := by decide +kernel
theorem dX10_readsGuests_37 : decode cX10_readsGuests 37 = .ok (.istore 4, 2) := by decide +kernel
theorem dX10_readsGuests_39 : decode cX10_readsGuests 39 = .ok (.iload 4, 2) := by decide +kernel
theorem dX10_readsGuests_41 : decode cX10_readsGuests 41 = .ok (.bipush (-9), 2) := by decide +kernel
theorem dX10_readsGuests_43 : decode cX10_readsGuests 43 = .ok (.if_icmp .ne 10, 3) := by decide +kernel
theorem dX10_readsGuests_46 : decode cX10_readsGuests 46 = .ok (.aload_n 0, 1) := by decide +kernel
theorem dX10_readsGuests_47 : decode cX10_readsGuests 47 = .ok (.iconst 0, 1) := by decide +kernel
theorem dX10_readsGuests_48 : decode cX10_readsGuests 48 = .ok (.putfield 103, 3) := by decide +kernel
theorem dX10_readsGuests_51 : decode cX10_readsGuests 51 = .ok (.iload_n 2, 1) := by decide +kernel
theorem dX10_readsGuests_52 : decode cX10_readsGuests 52 = .ok (.ireturn, 1) := by decide +kernel
theorem dX10_readsGuests_53 : decode cX10_readsGuests 53 = .ok (.aload_n 0, 1) := by decide +kernel
theorem dX10_readsGuests_54 : decode cX10_readsGuests 54 = .ok (.iconst 4, 1) := by decide +kernel
theorem dX10_readsGuests_55 : decode cX10_readsGuests 55 = .ok (.iload_n 2, 1) := by decide +kernel
theorem dX10_readsGuests_56 : decode cX10_readsGuests 56 = .ok (.bipush 6, 2) := by decide +kernel
theorem dX10_readsGuests_58 : decode cX10_readsGuests 58 = .ok (.idiv, 1) := by decide +kernel
theorem dX10_readsGuests_59 : decode cX10_readsGuests 59 = .ok (.imul, 1) := by decide +kernel
theorem dX10_readsGuests_60 : decode cX10_readsGuests 60 = .ok (.iload_n 3, 1) := by decide +kernel
theorem dX10_readsGuests_61 : decode cX10_readsGuests 61 = .ok (.iload 4, 2) := by decide +kernel
theorem dX10_readsGuests_63 : decode cX10_readsGuests 63 = .ok (.invokevirtual 109, 3) := by decide +kernel
theorem dX10_readsGuests_66 : decode cX10_readsGuests 66 = .ok (.aload_n 0, 1) := by decide +kernel
theorem dX10_readsGuests_67 : decode cX10_readsGuests 67 = .ok (.dup, 1) := by decide +kernel
theorem dX10_readsGuests_68 : decode cX10_readsGuests 68 = .ok (.getfield 103, 3) := by decide +kernel
theorem dX10_readsGuests_71 : decode cX10_readsGuests 71 = .ok (.iload_n 3, 1) := by decide +kernel
theorem dX10_readsGuests_72 : decode cX10_readsGuests 72 = .ok (.iconst 4, 1) := by decide +kernel
theorem dX10_readsGuests_73 : decode cX10_readsGuests 73 = .ok (.if_icmp .ne 7, 3) := by decide +kernel
theorem dX10_readsGuests_76 : decode cX10_readsGuests 76 = .ok (.iconst 1, 1) := by decide +kernel
theorem dX10_readsGuests_77 : decode cX10_readsGuests 77 = .ok (.goto 4, 3) := by decide +kernel
theorem dX10_readsGuests_80 : decode cX10_readsGuests 80 = .ok (.iconst 0, 1) := by decide +kernel
theorem dX10_readsGuests_81 : decode cX10_readsGuests 81 = .ok (.iadd, 1) := by decide +kernel
theorem dX10_readsGuests_82 : decode cX10_readsGuests 82 = .ok (.putfield 103, 3) := by decide +kernel
theorem dX10_readsGuests_85 : decode cX10_readsGuests 85 = .ok (.iinc 2 1, 3) := by decide +kernel
theorem dX10_readsGuests_88 : decode cX10_readsGuests 88 = .ok (.goto (-74), 3) := by decide +kernel
theorem dX10_readsGuests_91 : decode cX10_readsGuests 91 = .ok (.iload_n 1, 1) := by decide +kernel
theorem dX10_readsGuests_92 : decode cX10_readsGuests 92 = .ok (.ifCond .le 18, 3) := by decide +kernel
theorem dX10_readsGuests_95 : decode cX10_readsGuests 95 = .ok (.iload_n 1, 1) := by decide +kernel
theorem dX10_readsGuests_96 : decode cX10_readsGuests 96 = .ok (.bipush 6, 2) := by decide +kernel
theorem dX10_readsGuests_98 : decode cX10_readsGuests 98 = .ok (.irem, 1) := by decide +kernel
theorem dX10_readsGuests_99 : decode cX10_readsGuests 99 = .ok (.iconst 5, 1) := by decide +kernel
theorem dX10_readsGuests_100 : decode cX10_readsGuests 100 = .ok (.if_icmp .eq 10, 3) := by decide +kernel
theorem dX10_readsGuests_103 : decode cX10_readsGuests 103 = .ok (.aload_n 0, 1) := by decide +kernel
theorem dX10_readsGuests_104 : decode cX10_readsGuests 104 = .ok (.iconst 0, 1) := by decide +kernel
theorem dX10_readsGuests_105 : decode cX10_readsGuests 105 = .ok (.putfield 103, 3) := by decide +kernel
theorem dX10_readsGuests_108 : decode cX10_readsGuests 108 = .ok (.iload_n 1, 1) := by decide +kernel
theorem dX10_readsGuests_109 : decode cX10_readsGuests 109 = .ok (.ireturn, 1) := by decide +kernel
theorem dX10_readsGuests_110 : decode cX10_readsGuests 110 = .ok (.iconst (-1), 1) := by decide +kernel
theorem dX10_readsGuests_111 : decode cX10_readsGuests 111 = .ok (.ireturn, 1) := by decide +kernel
theorem dX10_fault_0 : decode cX10_fault 0 = .ok (.iload_n 1, 1) := by decide +kernel
theorem dX10_fault_1 : decode cX10_fault 1 = .ok (.invokestatic 89, 3) := by decide +kernel
theorem dX10_fault_4 : decode cX10_fault 4 = .ok (.ifCond .ne 8, 3) := by decide +kernel
theorem dX10_fault_7 : decode cX10_fault 7 = .ok (.bipush (-2), 2) := by decide +kernel
theorem dX10_fault_9 : decode cX10_fault 9 = .ok (.goto 18, 3) := by decide +kernel
theorem dX10_fault_12 : decode cX10_fault 12 = .ok (.iload_n 1, 1) := by decide +kernel
theorem dX10_fault_13 : decode cX10_fault 13 = .ok (.ifCond .ne 10, 3) := by decide +kernel
theorem dX10_fault_16 : decode cX10_fault 16 = .ok (.aload_n 0, 1) := by decide +kernel
theorem dX10_fault_17 : decode cX10_fault 17 = .ok (.invokevirtual 113, 3) := by decide +kernel
theorem dX10_fault_20 : decode cX10_fault 20 = .ok (.goto 7, 3) := by decide +kernel
theorem dX10_fault_23 : decode cX10_fault 23 = .ok (.aload_n 0, 1) := by decide +kernel
theorem dX10_fault_24 : decode cX10_fault 24 = .ok (.invokevirtual 117, 3) := by decide +kernel
theorem dX10_fault_27 : decode cX10_fault 27 = .ok (.ireturn, 1) := by decide +kernel
theorem dX10_isHouse_0 : decode cX10_isHouse 0 = .ok (.iload_n 1, 1) := by decide +kernel
theorem dX10_isHouse_1 : decode cX10_isHouse 1 = .ok (.i2l, 1) := by decide +kernel
theorem dX10_isHouse_2 : decode cX10_isHouse 2 = .ok (.lconst 0, 1) := by decide +kernel
theorem dX10_isHouse_3 : decode cX10_isHouse 3 = .ok (.aload_n 0, 1) := by decide +kernel
theorem dX10_isHouse_4 : decode cX10_isHouse 4 = .ok (.getfield 97, 3) := by decide +kernel
theorem dX10_isHouse_7 : decode cX10_isHouse 7 = .ok (.iconst 1, 1) := by decide +kernel
theorem dX10_isHouse_8 : decode cX10_isHouse 8 = .ok (.isub, 1) := by decide +kernel
theorem dX10_isHouse_9 : decode cX10_isHouse 9 = .ok (.i2l, 1) := by decide +kernel
theorem dX10_isHouse_10 : decode cX10_isHouse 10 = .ok (.invokestatic 60, 3) := by decide +kernel
theorem dX10_isHouse_13 : decode cX10_isHouse 13 = .ok (.ireturn, 1) := by decide +kernel
theorem dX10_isGuest_0 : decode cX10_isGuest 0 = .ok (.iload_n 1, 1) := by decide +kernel
theorem dX10_isGuest_1 : decode cX10_isGuest 1 = .ok (.i2l, 1) := by decide +kernel
theorem dX10_isGuest_2 : decode cX10_isGuest 2 = .ok (.lconst 0, 1) := by decide +kernel
theorem dX10_isGuest_3 : decode cX10_isGuest 3 = .ok (.aload_n 0, 1) := by decide +kernel
theorem dX10_isGuest_4 : decode cX10_isGuest 4 = .ok (.getfield 103, 3) := by decide +kernel
theorem dX10_isGuest_7 : decode cX10_isGuest 7 = .ok (.iconst 1, 1) := by decide +kernel
theorem dX10_isGuest_8 : decode cX10_isGuest 8 = .ok (.isub, 1) := by decide +kernel
theorem dX10_isGuest_9 : decode cX10_isGuest 9 = .ok (.i2l, 1) := by decide +kernel
theorem dX10_isGuest_10 : decode cX10_isGuest 10 = .ok (.invokestatic 60, 3) := by decide +kernel
theorem dX10_isGuest_13 : decode cX10_isGuest 13 = .ok (.ireturn, 1) := by decide +kernel
theorem dX10_house_0 : decode cX10_house 0 = .ok (.aload_n 0, 1) := by decide +kernel
theorem dX10_house_1 : decode cX10_house 1 = .ok (.invokevirtual 113, 3) := by decide +kernel
theorem dX10_house_4 : decode cX10_house 4 = .ok (.pop, 1) := by decide +kernel
theorem dX10_house_5 : decode cX10_house 5 = .ok (.aload_n 0, 1) := by decide +kernel
theorem dX10_house_6 : decode cX10_house 6 = .ok (.iload_n 1, 1) := by decide +kernel
theorem dX10_house_7 : decode cX10_house 7 = .ok (.invokevirtual 120, 3) := by decide +kernel
theorem dX10_house_10 : decode cX10_house 10 = .ok (.ifCond .eq 28, 3) := by decide +kernel
theorem dX10_house_13 : decode cX10_house 13 = .ok (.iload_n 2, 1) := by decide +kernel
theorem dX10_house_14 : decode cX10_house 14 = .ok (.i2l, 1) := by decide +kernel
theorem dX10_house_15 : decode cX10_house 15 = .ok (.lconst 0, 1) := by decide +kernel
theorem dX10_house_16 : decode cX10_house 16 = .ok (.ldc2_w 74, 3) := by decide +kernel
theorem dX10_house_19 : decode cX10_house 19 = .ok (.invokestatic 60, 3) := by decide +kernel
theorem dX10_house_22 : decode cX10_house 22 = .ok (.ifCond .eq 16, 3) := by decide +kernel
theorem dX10_house_25 : decode cX10_house 25 = .ok (.aload_n 0, 1) := by decide +kernel
theorem dX10_house_26 : decode cX10_house 26 = .ok (.getfield 28, 3) := by decide +kernel
theorem dX10_house_29 : decode cX10_house 29 = .ok (.iconst 3, 1) := by decide +kernel
theorem dX10_house_30 : decode cX10_house 30 = .ok (.iload_n 1, 1) := by decide +kernel
theorem dX10_house_31 : decode cX10_house 31 = .ok (.imul, 1) := by decide +kernel
theorem dX10_house_32 : decode cX10_house 32 = .ok (.iload_n 2, 1) := by decide +kernel
theorem dX10_house_33 : decode cX10_house 33 = .ok (.iadd, 1) := by decide +kernel
theorem dX10_house_34 : decode cX10_house 34 = .ok (.iaload, 1) := by decide +kernel
theorem dX10_house_35 : decode cX10_house 35 = .ok (.goto 5, 3) := by decide +kernel
theorem dX10_house_38 : decode cX10_house 38 = .ok (.bipush (-2), 2) := by decide +kernel
theorem dX10_house_40 : decode cX10_house 40 = .ok (.ireturn, 1) := by decide +kernel
theorem dX10_guest_0 : decode cX10_guest 0 = .ok (.aload_n 0, 1) := by decide +kernel
theorem dX10_guest_1 : decode cX10_guest 1 = .ok (.invokevirtual 117, 3) := by decide +kernel
theorem dX10_guest_4 : decode cX10_guest 4 = .ok (.pop, 1) := by decide +kernel
theorem dX10_guest_5 : decode cX10_guest 5 = .ok (.aload_n 0, 1) := by decide +kernel
theorem dX10_guest_6 : decode cX10_guest 6 = .ok (.iload_n 1, 1) := by decide +kernel
theorem dX10_guest_7 : decode cX10_guest 7 = .ok (.invokevirtual 123, 3) := by decide +kernel
theorem dX10_guest_10 : decode cX10_guest 10 = .ok (.ifCond .eq 28, 3) := by decide +kernel
theorem dX10_guest_13 : decode cX10_guest 13 = .ok (.iload_n 2, 1) := by decide +kernel
theorem dX10_guest_14 : decode cX10_guest 14 = .ok (.i2l, 1) := by decide +kernel
theorem dX10_guest_15 : decode cX10_guest 15 = .ok (.lconst 0, 1) := by decide +kernel
theorem dX10_guest_16 : decode cX10_guest 16 = .ok (.ldc2_w 68, 3) := by decide +kernel
theorem dX10_guest_19 : decode cX10_guest 19 = .ok (.invokestatic 60, 3) := by decide +kernel
theorem dX10_guest_22 : decode cX10_guest 22 = .ok (.ifCond .eq 16, 3) := by decide +kernel
theorem dX10_guest_25 : decode cX10_guest 25 = .ok (.aload_n 0, 1) := by decide +kernel
theorem dX10_guest_26 : decode cX10_guest 26 = .ok (.getfield 31, 3) := by decide +kernel
theorem dX10_guest_29 : decode cX10_guest 29 = .ok (.iconst 4, 1) := by decide +kernel
theorem dX10_guest_30 : decode cX10_guest 30 = .ok (.iload_n 1, 1) := by decide +kernel
theorem dX10_guest_31 : decode cX10_guest 31 = .ok (.imul, 1) := by decide +kernel
theorem dX10_guest_32 : decode cX10_guest 32 = .ok (.iload_n 2, 1) := by decide +kernel
theorem dX10_guest_33 : decode cX10_guest 33 = .ok (.iadd, 1) := by decide +kernel
theorem dX10_guest_34 : decode cX10_guest 34 = .ok (.iaload, 1) := by decide +kernel
theorem dX10_guest_35 : decode cX10_guest 35 = .ok (.goto 5, 3) := by decide +kernel
theorem dX10_guest_38 : decode cX10_guest 38 = .ok (.bipush (-2), 2) := by decide +kernel
theorem dX10_guest_40 : decode cX10_guest 40 = .ok (.ireturn, 1) := by decide +kernel
theorem dX10_set_0 : decode cX10_set 0 = .ok (.iload_n 1, 1) := by decide +kernel
theorem dX10_set_1 : decode cX10_set 1 = .ok (.invokestatic 89, 3) := by decide +kernel
theorem dX10_set_4 : decode cX10_set 4 = .ok (.ifCond .eq 23, 3) := by decide +kernel
theorem dX10_set_7 : decode cX10_set 7 = .ok (.iload_n 2, 1) := by decide +kernel
theorem dX10_set_8 : decode cX10_set 8 = .ok (.i2l, 1) := by decide +kernel
theorem dX10_set_9 : decode cX10_set 9 = .ok (.lconst 0, 1) := by decide +kernel
theorem dX10_set_10 : decode cX10_set 10 = .ok (.iload_n 1, 1) := by decide +kernel
theorem dX10_set_11 : decode cX10_set 11 = .ok (.ifCond .ne 7, 3) := by decide +kernel
theorem dX10_set_14 : decode cX10_set 14 = .ok (.lconst 1, 1) := by decide +kernel
theorem dX10_set_15 : decode cX10_set 15 = .ok (.goto 6, 3) := by decide +kernel
theorem dX10_set_18 : decode cX10_set 18 = .ok (.ldc2_w 92, 3) := by decide +kernel
theorem dX10_set_21 : decode cX10_set 21 = .ok (.invokestatic 60, 3) := by decide +kernel
theorem dX10_set_24 : decode cX10_set 24 = .ok (.ifCond .ne 6, 3) := by decide +kernel
theorem dX10_set_27 : decode cX10_set 27 = .ok (.bipush (-2), 2) := by decide +kernel
theorem dX10_set_29 : decode cX10_set 29 = .ok (.ireturn, 1) := by decide +kernel
theorem dX10_set_30 : decode cX10_set 30 = .ok (.aload_n 0, 1) := by decide +kernel
theorem dX10_set_31 : decode cX10_set 31 = .ok (.getfield 34, 3) := by decide +kernel
theorem dX10_set_34 : decode cX10_set 34 = .ok (.iload_n 1, 1) := by decide +kernel
theorem dX10_set_35 : decode cX10_set 35 = .ok (.iaload, 1) := by decide +kernel
theorem dX10_set_36 : decode cX10_set 36 = .ok (.istore_n 3, 1) := by decide +kernel
theorem dX10_set_37 : decode cX10_set 37 = .ok (.aload_n 0, 1) := by decide +kernel
theorem dX10_set_38 : decode cX10_set 38 = .ok (.getfield 34, 3) := by decide +kernel
theorem dX10_set_41 : decode cX10_set 41 = .ok (.iload_n 1, 1) := by decide +kernel
theorem dX10_set_42 : decode cX10_set 42 = .ok (.iload_n 2, 1) := by decide +kernel
theorem dX10_set_43 : decode cX10_set 43 = .ok (.iastore, 1) := by decide +kernel
theorem dX10_set_44 : decode cX10_set 44 = .ok (.iload_n 3, 1) := by decide +kernel
theorem dX10_set_45 : decode cX10_set 45 = .ok (.ireturn, 1) := by decide +kernel
theorem dX10_findRow_0 : decode cX10_findRow 0 = .ok (.iconst 0, 1) := by decide +kernel
theorem dX10_findRow_1 : decode cX10_findRow 1 = .ok (.istore_n 1, 1) := by decide +kernel
theorem dX10_findRow_2 : decode cX10_findRow 2 = .ok (.iload_n 1, 1) := by decide +kernel
theorem dX10_findRow_3 : decode cX10_findRow 3 = .ok (.aload_n 0, 1) := by decide +kernel
theorem dX10_findRow_4 : decode cX10_findRow 4 = .ok (.getfield 97, 3) := by decide +kernel
theorem dX10_findRow_7 : decode cX10_findRow 7 = .ok (.if_icmp .ge 37, 3) := by decide +kernel
theorem dX10_findRow_10 : decode cX10_findRow 10 = .ok (.aload_n 0, 1) := by decide +kernel
theorem dX10_findRow_11 : decode cX10_findRow 11 = .ok (.getfield 37, 3) := by decide +kernel
theorem dX10_findRow_14 : decode cX10_findRow 14 = .ok (.iload_n 1, 1) := by decide +kernel
theorem dX10_findRow_15 : decode cX10_findRow 15 = .ok (.aload_n 0, 1) := by decide +kernel
theorem dX10_findRow_16 : decode cX10_findRow 16 = .ok (.getfield 34, 3) := by decide +kernel
theorem dX10_findRow_19 : decode cX10_findRow 19 = .ok (.iconst 0, 1) := by decide +kernel
theorem dX10_findRow_20 : decode cX10_findRow 20 = .ok (.iaload, 1) := by decide +kernel
theorem dX10_findRow_21 : decode cX10_findRow 21 = .ok (.iconst 1, 1) := by decide +kernel
theorem dX10_findRow_22 : decode cX10_findRow 22 = .ok (.if_icmp .ne 14, 3) := by decide +kernel
theorem dX10_findRow_25 : decode cX10_findRow 25 = .ok (.aload_n 0, 1) := by decide +kernel
theorem dX10_findRow_26 : decode cX10_findRow 26 = .ok (.getfield 97, 3) := by decide +kernel
theorem dX10_findRow_29 : decode cX10_findRow 29 = .ok (.iconst 1, 1) := by decide +kernel
theorem dX10_findRow_30 : decode cX10_findRow 30 = .ok (.isub, 1) := by decide +kernel
theorem dX10_findRow_31 : decode cX10_findRow 31 = .ok (.iload_n 1, 1) := by decide +kernel
theorem dX10_findRow_32 : decode cX10_findRow 32 = .ok (.isub, 1) := by decide +kernel
theorem dX10_findRow_33 : decode cX10_findRow 33 = .ok (.goto 4, 3) := by decide +kernel
theorem dX10_findRow_36 : decode cX10_findRow 36 = .ok (.iload_n 1, 1) := by decide +kernel
theorem dX10_findRow_37 : decode cX10_findRow 37 = .ok (.iastore, 1) := by decide +kernel
theorem dX10_findRow_38 : decode cX10_findRow 38 = .ok (.iinc 1 1, 3) := by decide +kernel
theorem dX10_findRow_41 : decode cX10_findRow 41 = .ok (.goto (-39), 3) := by decide +kernel
theorem dX10_findRow_44 : decode cX10_findRow 44 = .ok (.return_, 1) := by decide +kernel
theorem dX10_reads_0 : decode cX10_reads 0 = .ok (.aload_n 0, 1) := by decide +kernel
theorem dX10_reads_1 : decode cX10_reads 1 = .ok (.invokevirtual 113, 3) := by decide +kernel
theorem dX10_reads_4 : decode cX10_reads 4 = .ok (.pop, 1) := by decide +kernel
theorem dX10_reads_5 : decode cX10_reads 5 = .ok (.aload_n 0, 1) := by decide +kernel
theorem dX10_reads_6 : decode cX10_reads 6 = .ok (.invokevirtual 117, 3) := by decide +kernel
theorem dX10_reads_9 : decode cX10_reads 9 = .ok (.pop, 1) := by decide +kernel
theorem dX10_reads_10 : decode cX10_reads 10 = .ok (.aload_n 0, 1) := by decide +kernel
theorem dX10_reads_11 : decode cX10_reads 11 = .ok (.invokevirtual 126, 3) := by decide +kernel
theorem dX10_reads_14 : decode cX10_reads 14 = .ok (.return_, 1) := by decide +kernel
theorem dX10_at_0 : decode cX10_at 0 = .ok (.aload_n 0, 1) := by decide +kernel
theorem dX10_at_1 : decode cX10_at 1 = .ok (.invokevirtual 129, 3) := by decide +kernel
theorem dX10_at_4 : decode cX10_at 4 = .ok (.iload_n 1, 1) := by decide +kernel
theorem dX10_at_5 : decode cX10_at 5 = .ok (.i2l, 1) := by decide +kernel
theorem dX10_at_6 : decode cX10_at 6 = .ok (.lconst 0, 1) := by decide +kernel
theorem dX10_at_7 : decode cX10_at 7 = .ok (.ldc2_w 132, 3) := by decide +kernel
theorem dX10_at_10 : decode cX10_at 10 = .ok (.invokestatic 60, 3) := by decide +kernel
theorem dX10_at_13 : decode cX10_at 13 = .ok (.ifCond .ne 8, 3) := by decide +kernel
theorem dX10_at_16 : decode cX10_at 16 = .ok (.bipush (-2), 2) := by decide +kernel
theorem dX10_at_18 : decode cX10_at 18 = .ok (.goto 21, 3) := by decide +kernel
theorem dX10_at_21 : decode cX10_at 21 = .ok (.iload_n 1, 1) := by decide +kernel
theorem dX10_at_22 : decode cX10_at 22 = .ok (.aload_n 0, 1) := by decide +kernel
theorem dX10_at_23 : decode cX10_at 23 = .ok (.getfield 97, 3) := by decide +kernel
theorem dX10_at_26 : decode cX10_at 26 = .ok (.if_icmp .ge 12, 3) := by decide +kernel
theorem dX10_at_29 : decode cX10_at 29 = .ok (.aload_n 0, 1) := by decide +kernel
theorem dX10_at_30 : decode cX10_at 30 = .ok (.getfield 37, 3) := by decide +kernel
theorem dX10_at_33 : decode cX10_at 33 = .ok (.iload_n 1, 1) := by decide +kernel
theorem dX10_at_34 : decode cX10_at 34 = .ok (.iaload, 1) := by decide +kernel
theorem dX10_at_35 : decode cX10_at 35 = .ok (.goto 4, 3) := by decide +kernel
theorem dX10_at_38 : decode cX10_at 38 = .ok (.iconst (-1), 1) := by decide +kernel
theorem dX10_at_39 : decode cX10_at 39 = .ok (.ireturn, 1) := by decide +kernel
theorem dX10_behind_0 : decode cX10_behind 0 = .ok (.iload_n 0, 1) := by decide +kernel
theorem dX10_behind_1 : decode cX10_behind 1 = .ok (.iconst 2, 1) := by decide +kernel
theorem dX10_behind_2 : decode cX10_behind 2 = .ok (.if_icmp .ne 9, 3) := by decide +kernel
theorem dX10_behind_5 : decode cX10_behind 5 = .ok (.iload_n 1, 1) := by decide +kernel
theorem dX10_behind_6 : decode cX10_behind 6 = .ok (.iconst 2, 1) := by decide +kernel
theorem dX10_behind_7 : decode cX10_behind 7 = .ok (.idiv, 1) := by decide +kernel
theorem dX10_behind_8 : decode cX10_behind 8 = .ok (.goto 24, 3) := by decide +kernel
theorem dX10_behind_11 : decode cX10_behind 11 = .ok (.iload_n 0, 1) := by decide +kernel
theorem dX10_behind_12 : decode cX10_behind 12 = .ok (.iconst 3, 1) := by decide +kernel
theorem dX10_behind_13 : decode cX10_behind 13 = .ok (.if_icmp .ne 18, 3) := by decide +kernel
theorem dX10_behind_16 : decode cX10_behind 16 = .ok (.iload_n 1, 1) := by decide +kernel
theorem dX10_behind_17 : decode cX10_behind 17 = .ok (.ifCond .le 14, 3) := by decide +kernel
theorem dX10_behind_20 : decode cX10_behind 20 = .ok (.iload_n 1, 1) := by decide +kernel
theorem dX10_behind_21 : decode cX10_behind 21 = .ok (.iconst 3, 1) := by decide +kernel
theorem dX10_behind_22 : decode cX10_behind 22 = .ok (.iadd, 1) := by decide +kernel
theorem dX10_behind_23 : decode cX10_behind 23 = .ok (.bipush 99, 2) := by decide +kernel
theorem dX10_behind_25 : decode cX10_behind 25 = .ok (.invokestatic 134, 3) := by decide +kernel
theorem dX10_behind_28 : decode cX10_behind 28 = .ok (.goto 4, 3) := by decide +kernel
theorem dX10_behind_31 : decode cX10_behind 31 = .ok (.iload_n 1, 1) := by decide +kernel
theorem dX10_behind_32 : decode cX10_behind 32 = .ok (.ireturn, 1) := by decide +kernel
theorem dX10_feeds_0 : decode cX10_feeds 0 = .ok (.iconst 0, 1) := by decide +kernel
theorem dX10_feeds_1 : decode cX10_feeds 1 = .ok (.istore_n 2, 1) := by decide +kernel
theorem dX10_feeds_2 : decode cX10_feeds 2 = .ok (.iload_n 2, 1) := by decide +kernel
theorem dX10_feeds_3 : decode cX10_feeds 3 = .ok (.bipush 8, 2) := by decide +kernel
theorem dX10_feeds_5 : decode cX10_feeds 5 = .ok (.if_icmp .ge 21, 3) := by decide +kernel
theorem dX10_feeds_8 : decode cX10_feeds 8 = .ok (.aload_n 0, 1) := by decide +kernel
theorem dX10_feeds_9 : decode cX10_feeds 9 = .ok (.getfield 40, 3) := by decide +kernel
theorem dX10_feeds_12 : decode cX10_feeds 12 = .ok (.bipush 8, 2) := by decide +kernel
theorem dX10_feeds_14 : decode cX10_feeds 14 = .ok (.iload_n 1, 1) := by decide +kernel
theorem dX10_feeds_15 : decode cX10_feeds 15 = .ok (.imul, 1) := by decide +kernel
theorem dX10_feeds_16 : decode cX10_feeds 16 = .ok (.iload_n 2, 1) := by decide +kernel
theorem dX10_feeds_17 : decode cX10_feeds 17 = .ok (.iadd, 1) := by decide +kernel
theorem dX10_feeds_18 : decode cX10_feeds 18 = .ok (.iconst 0, 1) := by decide +kernel
theorem dX10_feeds_19 : decode cX10_feeds 19 = .ok (.iastore, 1) := by decide +kernel
theorem dX10_feeds_20 : decode cX10_feeds 20 = .ok (.iinc 2 1, 3) := by decide +kernel
theorem dX10_feeds_23 : decode cX10_feeds 23 = .ok (.goto (-21), 3) := by decide +kernel
theorem dX10_feeds_26 : decode cX10_feeds 26 = .ok (.aload_n 0, 1) := by decide +kernel
theorem dX10_feeds_27 : decode cX10_feeds 27 = .ok (.getfield 43, 3) := by decide +kernel
theorem dX10_feeds_30 : decode cX10_feeds 30 = .ok (.iload_n 1, 1) := by decide +kernel
theorem dX10_feeds_31 : decode cX10_feeds 31 = .ok (.iconst (-1), 1) := by decide +kernel
theorem dX10_feeds_32 : decode cX10_feeds 32 = .ok (.iastore, 1) := by decide +kernel
theorem dX10_feeds_33 : decode cX10_feeds 33 = .ok (.aload_n 0, 1) := by decide +kernel
theorem dX10_feeds_34 : decode cX10_feeds 34 = .ok (.getfield 49, 3) := by decide +kernel
theorem dX10_feeds_37 : decode cX10_feeds 37 = .ok (.iload_n 1, 1) := by decide +kernel
theorem dX10_feeds_38 : decode cX10_feeds 38 = .ok (.iconst 0, 1) := by decide +kernel
theorem dX10_feeds_39 : decode cX10_feeds 39 = .ok (.iastore, 1) := by decide +kernel
theorem dX10_feeds_40 : decode cX10_feeds 40 = .ok (.aload_n 0, 1) := by decide +kernel
theorem dX10_feeds_41 : decode cX10_feeds 41 = .ok (.getfield 52, 3) := by decide +kernel
theorem dX10_feeds_44 : decode cX10_feeds 44 = .ok (.iload_n 1, 1) := by decide +kernel
theorem dX10_feeds_45 : decode cX10_feeds 45 = .ok (.iconst 0, 1) := by decide +kernel
theorem dX10_feeds_46 : decode cX10_feeds 46 = .ok (.iastore, 1) := by decide +kernel
theorem dX10_feeds_47 : decode cX10_feeds 47 = .ok (.aload_n 0, 1) := by decide +kernel
theorem dX10_feeds_48 : decode cX10_feeds 48 = .ok (.getfield 31, 3) := by decide +kernel
theorem dX10_feeds_51 : decode cX10_feeds 51 = .ok (.iconst 4, 1) := by decide +kernel
theorem dX10_feeds_52 : decode cX10_feeds 52 = .ok (.iload_n 1, 1) := by decide +kernel
theorem dX10_feeds_53 : decode cX10_feeds 53 = .ok (.imul, 1) := by decide +kernel
theorem dX10_feeds_54 : decode cX10_feeds 54 = .ok (.iaload, 1) := by decide +kernel
theorem dX10_feeds_55 : decode cX10_feeds 55 = .ok (.istore_n 2, 1) := by decide +kernel
theorem dX10_feeds_56 : decode cX10_feeds 56 = .ok (.iconst 0, 1) := by decide +kernel
theorem dX10_feeds_57 : decode cX10_feeds 57 = .ok (.istore_n 3, 1) := by decide +kernel
theorem dX10_feeds_58 : decode cX10_feeds 58 = .ok (.aload_n 0, 1) := by decide +kernel
theorem dX10_feeds_59 : decode cX10_feeds 59 = .ok (.getfield 31, 3) := by decide +kernel
theorem dX10_feeds_62 : decode cX10_feeds 62 = .ok (.iconst 4, 1) := by decide +kernel
theorem dX10_feeds_63 : decode cX10_feeds 63 = .ok (.iload_n 1, 1) := by decide +kernel
theorem dX10_feeds_64 : decode cX10_feeds 64 = .ok (.imul, 1) := by decide +kernel
theorem dX10_feeds_65 : decode cX10_feeds 65 = .ok (.iconst 1, 1) := by decide +kernel
theorem dX10_feeds_66 : decode cX10_feeds 66 = .ok (.iadd, 1) := by decide +kernel
theorem dX10_feeds_67 : decode cX10_feeds 67 = .ok (.iaload, 1) := by decide +kernel
theorem dX10_feeds_68 : decode cX10_feeds 68 = .ok (.istore 4, 2) := by decide +kernel
theorem dX10_feeds_70 : decode cX10_feeds 70 = .ok (.iload_n 2, 1) := by decide +kernel
theorem dX10_feeds_71 : decode cX10_feeds 71 = .ok (.ifCond .le 202, 3) := by decide +kernel
theorem dX10_feeds_74 : decode cX10_feeds 74 = .ok (.iload 4, 2) := by decide +kernel
theorem dX10_feeds_76 : decode cX10_feeds 76 = .ok (.i2l, 1) := by decide +kernel
theorem dX10_feeds_77 : decode cX10_feeds 77 = .ok (.lconst 0, 1) := by decide +kernel
theorem dX10_feeds_78 : decode cX10_feeds 78 = .ok (.aload_n 0, 1) := by decide +kernel
theorem dX10_feeds_79 : decode cX10_feeds 79 = .ok (.getfield 97, 3) := by decide +kernel
theorem dX10_feeds_82 : decode cX10_feeds 82 = .ok (.iconst 1, 1) := by decide +kernel
theorem dX10_feeds_83 : decode cX10_feeds 83 = .ok (.isub, 1) := by decide +kernel
theorem dX10_feeds_84 : decode cX10_feeds 84 = .ok (.i2l, 1) := by decide +kernel
theorem dX10_feeds_85 : decode cX10_feeds 85 = .ok (.invokestatic 60, 3) := by decide +kernel
theorem dX10_feeds_88 : decode cX10_feeds 88 = .ok (.ifCond .eq 185, 3) := by decide +kernel
theorem dX10_feeds_91 : decode cX10_feeds 91 = .ok (.aload_n 0, 1) := by decide +kernel
theorem dX10_feeds_92 : decode cX10_feeds 92 = .ok (.getfield 37, 3) := by decide +kernel
theorem dX10_feeds_95 : decode cX10_feeds 95 = .ok (.iload 4, 2) := by decide +kernel
theorem dX10_feeds_97 : decode cX10_feeds 97 = .ok (.iaload, 1) := by decide +kernel
theorem dX10_feeds_98 : decode cX10_feeds 98 = .ok (.istore 5, 2) := by decide +kernel
theorem dX10_feeds_100 : decode cX10_feeds 100 = .ok (.aload_n 0, 1) := by decide +kernel
theorem dX10_feeds_101 : decode cX10_feeds 101 = .ok (.getfield 52, 3) := by decide +kernel
theorem dX10_feeds_104 : decode cX10_feeds 104 = .ok (.iload_n 1, 1) := by decide +kernel
theorem dX10_feeds_105 : decode cX10_feeds 105 = .ok (.dup2, 1) := by decide +kernel
theorem dX10_feeds_106 : decode cX10_feeds 106 = .ok (.iaload, 1) := by decide +kernel
theorem dX10_feeds_107 : decode cX10_feeds 107 = .ok (.iconst 1, 1) := by decide +kernel
theorem dX10_feeds_108 : decode cX10_feeds 108 = .ok (.iload 5, 2) := by decide +kernel
theorem dX10_feeds_110 : decode cX10_feeds 110 = .ok (.ishl, 1) := by decide +kernel
theorem dX10_feeds_111 : decode cX10_feeds 111 = .ok (.ior, 1) := by decide +kernel
theorem dX10_feeds_112 : decode cX10_feeds 112 = .ok (.iastore, 1) := by decide +kernel
theorem dX10_feeds_113 : decode cX10_feeds 113 = .ok (.aload_n 0, 1) := by decide +kernel
theorem dX10_feeds_114 : decode cX10_feeds 114 = .ok (.getfield 28, 3) := by decide +kernel
theorem dX10_feeds_117 : decode cX10_feeds 117 = .ok (.iconst 3, 1) := by decide +kernel
theorem dX10_feeds_118 : decode cX10_feeds 118 = .ok (.iload 5, 2) := by decide +kernel
theorem dX10_feeds_120 : decode cX10_feeds 120 = .ok (.imul, 1) := by decide +kernel
theorem dX10_feeds_121 : decode cX10_feeds 121 = .ok (.iconst 1, 1) := by decide +kernel
theorem dX10_feeds_122 : decode cX10_feeds 122 = .ok (.iadd, 1) := by decide +kernel
theorem dX10_feeds_123 : decode cX10_feeds 123 = .ok (.iaload, 1) := by decide +kernel
theorem dX10_feeds_124 : decode cX10_feeds 124 = .ok (.iload_n 3, 1) := by decide +kernel
theorem dX10_feeds_125 : decode cX10_feeds 125 = .ok (.iconst 1, 1) := by decide +kernel
theorem dX10_feeds_126 : decode cX10_feeds 126 = .ok (.if_icmp .ne 7, 3) := by decide +kernel
theorem dX10_feeds_129 : decode cX10_feeds 129 = .ok (.iconst 2, 1) := by decide +kernel
theorem dX10_feeds_130 : decode cX10_feeds 130 = .ok (.goto 4, 3) := by decide +kernel
theorem dX10_feeds_133 : decode cX10_feeds 133 = .ok (.iconst 0, 1) := by decide +kernel
theorem dX10_feeds_134 : decode cX10_feeds 134 = .ok (.iadd, 1) := by decide +kernel
theorem dX10_feeds_135 : decode cX10_feeds 135 = .ok (.istore 6, 2) := by decide +kernel
theorem dX10_feeds_137 : decode cX10_feeds 137 = .ok (.aload_n 0, 1) := by decide +kernel
theorem dX10_feeds_138 : decode cX10_feeds 138 = .ok (.getfield 34, 3) := by decide +kernel
theorem dX10_feeds_141 : decode cX10_feeds 141 = .ok (.iconst 1, 1) := by decide +kernel
theorem dX10_feeds_142 : decode cX10_feeds 142 = .ok (.iaload, 1) := by decide +kernel
theorem dX10_feeds_143 : decode cX10_feeds 143 = .ok (.iload 5, 2) := by decide +kernel
theorem dX10_feeds_145 : decode cX10_feeds 145 = .ok (.invokestatic 137, 3) := by decide +kernel
theorem dX10_feeds_148 : decode cX10_feeds 148 = .ok (.ifCond .ne 98, 3) := by decide +kernel
theorem dX10_feeds_151 : decode cX10_feeds 151 = .ok (.iload 6, 2) := by decide +kernel
theorem dX10_feeds_153 : decode cX10_feeds 153 = .ok (.iload_n 2, 1) := by decide +kernel
theorem dX10_feeds_154 : decode cX10_feeds 154 = .ok (.if_icmp .le 35, 3) := by decide +kernel
theorem dX10_feeds_157 : decode cX10_feeds 157 = .ok (.aload_n 0, 1) := by decide +kernel
theorem dX10_feeds_158 : decode cX10_feeds 158 = .ok (.getfield 49, 3) := by decide +kernel
theorem dX10_feeds_161 : decode cX10_feeds 161 = .ok (.iload_n 1, 1) := by decide +kernel
theorem dX10_feeds_162 : decode cX10_feeds 162 = .ok (.iaload, 1) := by decide +kernel
theorem dX10_feeds_163 : decode cX10_feeds 163 = .ok (.aload_n 0, 1) := by decide +kernel
theorem dX10_feeds_164 : decode cX10_feeds 164 = .ok (.getfield 31, 3) := by decide +kernel
theorem dX10_feeds_167 : decode cX10_feeds 167 = .ok (.iconst 4, 1) := by decide +kernel
theorem dX10_feeds_168 : decode cX10_feeds 168 = .ok (.iload_n 1, 1) := by decide +kernel
theorem dX10_feeds_169 : decode cX10_feeds 169 = .ok (.imul, 1) := by decide +kernel
theorem dX10_feeds_170 : decode cX10_feeds 170 = .ok (.iconst 3, 1) := by decide +kernel
theorem dX10_feeds_171 : decode cX10_feeds 171 = .ok (.iadd, 1) := by decide +kernel
theorem dX10_feeds_172 : decode cX10_feeds 172 = .ok (.iaload, 1) := by decide +kernel
theorem dX10_feeds_173 : decode cX10_feeds 173 = .ok (.if_icmp .ge 16, 3) := by decide +kernel
theorem dX10_feeds_176 : decode cX10_feeds 176 = .ok (.aload_n 0, 1) := by decide +kernel
theorem dX10_feeds_177 : decode cX10_feeds 177 = .ok (.getfield 49, 3) := by decide +kernel
theorem dX10_feeds_180 : decode cX10_feeds 180 = .ok (.iload_n 1, 1) := by decide +kernel
theorem dX10_feeds_181 : decode cX10_feeds 181 = .ok (.dup2, 1) := by decide +kernel
theorem dX10_feeds_182 : decode cX10_feeds 182 = .ok (.iaload, 1) := by decide +kernel
theorem dX10_feeds_183 : decode cX10_feeds 183 = .ok (.iconst 1, 1) := by decide +kernel
theorem dX10_feeds_184 : decode cX10_feeds 184 = .ok (.iadd, 1) := by decide +kernel
theorem dX10_feeds_185 : decode cX10_feeds 185 = .ok (.iastore, 1) := by decide +kernel
theorem dX10_feeds_186 : decode cX10_feeds 186 = .ok (.goto 60, 3) := by decide +kernel
theorem dX10_feeds_189 : decode cX10_feeds 189 = .ok (.iload 6, 2) := by decide +kernel
theorem dX10_feeds_191 : decode cX10_feeds 191 = .ok (.iload_n 2, 1) := by decide +kernel
theorem dX10_feeds_192 : decode cX10_feeds 192 = .ok (.invokestatic 134, 3) := by decide +kernel
theorem dX10_feeds_195 : decode cX10_feeds 195 = .ok (.istore 7, 2) := by decide +kernel
theorem dX10_feeds_197 : decode cX10_feeds 197 = .ok (.aload_n 0, 1) := by decide +kernel
theorem dX10_feeds_198 : decode cX10_feeds 198 = .ok (.getfield 40, 3) := by decide +kernel
theorem dX10_feeds_201 : decode cX10_feeds 201 = .ok (.bipush 8, 2) := by decide +kernel
theorem dX10_feeds_203 : decode cX10_feeds 203 = .ok (.iload_n 1, 1) := by decide +kernel
theorem dX10_feeds_204 : decode cX10_feeds 204 = .ok (.imul, 1) := by decide +kernel
theorem dX10_feeds_205 : decode cX10_feeds 205 = .ok (.iload 5, 2) := by decide +kernel
theorem dX10_feeds_207 : decode cX10_feeds 207 = .ok (.iadd, 1) := by decide +kernel
theorem dX10_feeds_208 : decode cX10_feeds 208 = .ok (.iload 7, 2) := by decide +kernel
theorem dX10_feeds_210 : decode cX10_feeds 210 = .ok (.iastore, 1) := by decide +kernel
theorem dX10_feeds_211 : decode cX10_feeds 211 = .ok (.aload_n 0, 1) := by decide +kernel
theorem dX10_feeds_212 : decode cX10_feeds 212 = .ok (.getfield 28, 3) := by decide +kernel
theorem dX10_feeds_215 : decode cX10_feeds 215 = .ok (.iconst 3, 1) := by decide +kernel
theorem dX10_feeds_216 : decode cX10_feeds 216 = .ok (.iload 5, 2) := by decide +kernel
theorem dX10_feeds_218 : decode cX10_feeds 218 = .ok (.imul, 1) := by decide +kernel
theorem dX10_feeds_219 : decode cX10_feeds 219 = .ok (.iaload, 1) := by decide +kernel
theorem dX10_feeds_220 : decode cX10_feeds 220 = .ok (.istore_n 3, 1) := by decide +kernel
theorem dX10_feeds_221 : decode cX10_feeds 221 = .ok (.iload_n 3, 1) := by decide +kernel
theorem dX10_feeds_222 : decode cX10_feeds 222 = .ok (.iload_n 2, 1) := by decide +kernel
theorem dX10_feeds_223 : decode cX10_feeds 223 = .ok (.iload 7, 2) := by decide +kernel
theorem dX10_feeds_225 : decode cX10_feeds 225 = .ok (.isub, 1) := by decide +kernel
theorem dX10_feeds_226 : decode cX10_feeds 226 = .ok (.invokestatic 141, 3) := by decide +kernel
theorem dX10_feeds_229 : decode cX10_feeds 229 = .ok (.istore_n 2, 1) := by decide +kernel
theorem dX10_feeds_230 : decode cX10_feeds 230 = .ok (.aload_n 0, 1) := by decide +kernel
theorem dX10_feeds_231 : decode cX10_feeds 231 = .ok (.getfield 43, 3) := by decide +kernel
theorem dX10_feeds_234 : decode cX10_feeds 234 = .ok (.iload_n 1, 1) := by decide +kernel
theorem dX10_feeds_235 : decode cX10_feeds 235 = .ok (.iload_n 2, 1) := by decide +kernel
theorem dX10_feeds_236 : decode cX10_feeds 236 = .ok (.ifCond .ne 8, 3) := by decide +kernel
theorem dX10_feeds_239 : decode cX10_feeds 239 = .ok (.iload 5, 2) := by decide +kernel
theorem dX10_feeds_241 : decode cX10_feeds 241 = .ok (.goto 4, 3) := by decide +kernel
theorem dX10_feeds_244 : decode cX10_feeds 244 = .ok (.iconst (-1), 1) := by decide +kernel
theorem dX10_feeds_245 : decode cX10_feeds 245 = .ok (.iastore, 1) := by decide +kernel
theorem dX10_feeds_246 : decode cX10_feeds 246 = .ok (.iload 4, 2) := by decide +kernel
theorem dX10_feeds_248 : decode cX10_feeds 248 = .ok (.aload_n 0, 1) := by decide +kernel
theorem dX10_feeds_249 : decode cX10_feeds 249 = .ok (.getfield 31, 3) := by decide +kernel
theorem dX10_feeds_252 : decode cX10_feeds 252 = .ok (.iconst 4, 1) := by decide +kernel
theorem dX10_feeds_253 : decode cX10_feeds 253 = .ok (.iload_n 1, 1) := by decide +kernel
theorem dX10_feeds_254 : decode cX10_feeds 254 = .ok (.imul, 1) := by decide +kernel
theorem dX10_feeds_255 : decode cX10_feeds 255 = .ok (.iconst 2, 1) := by decide +kernel
theorem dX10_feeds_256 : decode cX10_feeds 256 = .ok (.iadd, 1) := by decide +kernel
theorem dX10_feeds_257 : decode cX10_feeds 257 = .ok (.iaload, 1) := by decide +kernel
theorem dX10_feeds_258 : decode cX10_feeds 258 = .ok (.iconst 1, 1) := by decide +kernel
theorem dX10_feeds_259 : decode cX10_feeds 259 = .ok (.if_icmp .ne 7, 3) := by decide +kernel
theorem dX10_feeds_262 : decode cX10_feeds 262 = .ok (.iconst 1, 1) := by decide +kernel
theorem dX10_feeds_263 : decode cX10_feeds 263 = .ok (.goto 4, 3) := by decide +kernel
theorem dX10_feeds_266 : decode cX10_feeds 266 = .ok (.iconst (-1), 1) := by decide +kernel
theorem dX10_feeds_267 : decode cX10_feeds 267 = .ok (.iadd, 1) := by decide +kernel
theorem dX10_feeds_268 : decode cX10_feeds 268 = .ok (.istore 4, 2) := by decide +kernel
theorem dX10_feeds_270 : decode cX10_feeds 270 = .ok (.goto (-200), 3) := by decide +kernel
theorem dX10_feeds_273 : decode cX10_feeds 273 = .ok (.aload_n 0, 1) := by decide +kernel
theorem dX10_feeds_274 : decode cX10_feeds 274 = .ok (.getfield 46, 3) := by decide +kernel
theorem dX10_feeds_277 : decode cX10_feeds 277 = .ok (.iload_n 1, 1) := by decide +kernel
theorem dX10_feeds_278 : decode cX10_feeds 278 = .ok (.iload_n 2, 1) := by decide +kernel
theorem dX10_feeds_279 : decode cX10_feeds 279 = .ok (.iastore, 1) := by decide +kernel
theorem dX10_feeds_280 : decode cX10_feeds 280 = .ok (.return_, 1) := by decide +kernel
theorem dX10_feedsAll_0 : decode cX10_feedsAll 0 = .ok (.iconst 0, 1) := by decide +kernel
theorem dX10_feedsAll_1 : decode cX10_feedsAll 1 = .ok (.istore_n 1, 1) := by decide +kernel
theorem dX10_feedsAll_2 : decode cX10_feedsAll 2 = .ok (.iload_n 1, 1) := by decide +kernel
theorem dX10_feedsAll_3 : decode cX10_feedsAll 3 = .ok (.aload_n 0, 1) := by decide +kernel
theorem dX10_feedsAll_4 : decode cX10_feedsAll 4 = .ok (.getfield 103, 3) := by decide +kernel
theorem dX10_feedsAll_7 : decode cX10_feedsAll 7 = .ok (.if_icmp .ge 14, 3) := by decide +kernel
theorem dX10_feedsAll_10 : decode cX10_feedsAll 10 = .ok (.aload_n 0, 1) := by decide +kernel
theorem dX10_feedsAll_11 : decode cX10_feedsAll 11 = .ok (.iload_n 1, 1) := by decide +kernel
theorem dX10_feedsAll_12 : decode cX10_feedsAll 12 = .ok (.invokevirtual 144, 3) := by decide +kernel
theorem dX10_feedsAll_15 : decode cX10_feedsAll 15 = .ok (.iinc 1 1, 3) := by decide +kernel
theorem dX10_feedsAll_18 : decode cX10_feedsAll 18 = .ok (.goto (-16), 3) := by decide +kernel
theorem dX10_feedsAll_21 : decode cX10_feedsAll 21 = .ok (.return_, 1) := by decide +kernel
theorem dX10_find_0 : decode cX10_find 0 = .ok (.aload_n 0, 1) := by decide +kernel
theorem dX10_find_1 : decode cX10_find 1 = .ok (.invokevirtual 129, 3) := by decide +kernel
theorem dX10_find_4 : decode cX10_find 4 = .ok (.aload_n 0, 1) := by decide +kernel
theorem dX10_find_5 : decode cX10_find 5 = .ok (.invokevirtual 148, 3) := by decide +kernel
theorem dX10_find_8 : decode cX10_find 8 = .ok (.return_, 1) := by decide +kernel
theorem dX10_gives_0 : decode cX10_gives 0 = .ok (.aload_n 0, 1) := by decide +kernel
theorem dX10_gives_1 : decode cX10_gives 1 = .ok (.invokevirtual 151, 3) := by decide +kernel
theorem dX10_gives_4 : decode cX10_gives 4 = .ok (.aload_n 0, 1) := by decide +kernel
theorem dX10_gives_5 : decode cX10_gives 5 = .ok (.iload_n 1, 1) := by decide +kernel
theorem dX10_gives_6 : decode cX10_gives 6 = .ok (.invokevirtual 123, 3) := by decide +kernel
theorem dX10_gives_9 : decode cX10_gives 9 = .ok (.ifCond .eq 25, 3) := by decide +kernel
theorem dX10_gives_12 : decode cX10_gives 12 = .ok (.aload_n 0, 1) := by decide +kernel
theorem dX10_gives_13 : decode cX10_gives 13 = .ok (.iload_n 2, 1) := by decide +kernel
theorem dX10_gives_14 : decode cX10_gives 14 = .ok (.invokevirtual 120, 3) := by decide +kernel
theorem dX10_gives_17 : decode cX10_gives 17 = .ok (.ifCond .eq 17, 3) := by decide +kernel
theorem dX10_gives_20 : decode cX10_gives 20 = .ok (.aload_n 0, 1) := by decide +kernel
theorem dX10_gives_21 : decode cX10_gives 21 = .ok (.getfield 40, 3) := by decide +kernel
theorem dX10_gives_24 : decode cX10_gives 24 = .ok (.bipush 8, 2) := by decide +kernel
theorem dX10_gives_26 : decode cX10_gives 26 = .ok (.iload_n 1, 1) := by decide +kernel
theorem dX10_gives_27 : decode cX10_gives 27 = .ok (.imul, 1) := by decide +kernel
theorem dX10_gives_28 : decode cX10_gives 28 = .ok (.iload_n 2, 1) := by decide +kernel
theorem dX10_gives_29 : decode cX10_gives 29 = .ok (.iadd, 1) := by decide +kernel
theorem dX10_gives_30 : decode cX10_gives 30 = .ok (.iaload, 1) := by decide +kernel
theorem dX10_gives_31 : decode cX10_gives 31 = .ok (.goto 5, 3) := by decide +kernel
theorem dX10_gives_34 : decode cX10_gives 34 = .ok (.bipush (-2), 2) := by decide +kernel
theorem dX10_gives_36 : decode cX10_gives 36 = .ok (.ireturn, 1) := by decide +kernel
theorem dX10_fedBy_0 : decode cX10_fedBy 0 = .ok (.iload_n 2, 1) := by decide +kernel
theorem dX10_fedBy_1 : decode cX10_fedBy 1 = .ok (.tableswitch 48 0 2 #[27, 34, 41], 27) := by decide +kernel
theorem dX10_fedBy_28 : decode cX10_fedBy 28 = .ok (.aload_n 0, 1) := by decide +kernel
theorem dX10_fedBy_29 : decode cX10_fedBy 29 = .ok (.getfield 43, 3) := by decide +kernel
theorem dX10_fedBy_32 : decode cX10_fedBy 32 = .ok (.iload_n 1, 1) := by decide +kernel
theorem dX10_fedBy_33 : decode cX10_fedBy 33 = .ok (.iaload, 1) := by decide +kernel
theorem dX10_fedBy_34 : decode cX10_fedBy 34 = .ok (.ireturn, 1) := by decide +kernel
theorem dX10_fedBy_35 : decode cX10_fedBy 35 = .ok (.aload_n 0, 1) := by decide +kernel
theorem dX10_fedBy_36 : decode cX10_fedBy 36 = .ok (.getfield 46, 3) := by decide +kernel
theorem dX10_fedBy_39 : decode cX10_fedBy 39 = .ok (.iload_n 1, 1) := by decide +kernel
theorem dX10_fedBy_40 : decode cX10_fedBy 40 = .ok (.iaload, 1) := by decide +kernel
theorem dX10_fedBy_41 : decode cX10_fedBy 41 = .ok (.ireturn, 1) := by decide +kernel
theorem dX10_fedBy_42 : decode cX10_fedBy 42 = .ok (.aload_n 0, 1) := by decide +kernel
theorem dX10_fedBy_43 : decode cX10_fedBy 43 = .ok (.getfield 49, 3) := by decide +kernel
theorem dX10_fedBy_46 : decode cX10_fedBy 46 = .ok (.iload_n 1, 1) := by decide +kernel
theorem dX10_fedBy_47 : decode cX10_fedBy 47 = .ok (.iaload, 1) := by decide +kernel
theorem dX10_fedBy_48 : decode cX10_fedBy 48 = .ok (.ireturn, 1) := by decide +kernel
theorem dX10_fedBy_49 : decode cX10_fedBy 49 = .ok (.aload_n 0, 1) := by decide +kernel
theorem dX10_fedBy_50 : decode cX10_fedBy 50 = .ok (.getfield 52, 3) := by decide +kernel
theorem dX10_fedBy_53 : decode cX10_fedBy 53 = .ok (.iload_n 1, 1) := by decide +kernel
theorem dX10_fedBy_54 : decode cX10_fedBy 54 = .ok (.iaload, 1) := by decide +kernel
theorem dX10_fedBy_55 : decode cX10_fedBy 55 = .ok (.invokestatic 154, 3) := by decide +kernel
theorem dX10_fedBy_58 : decode cX10_fedBy 58 = .ok (.ireturn, 1) := by decide +kernel
theorem dX10_fed_0 : decode cX10_fed 0 = .ok (.aload_n 0, 1) := by decide +kernel
theorem dX10_fed_1 : decode cX10_fed 1 = .ok (.invokevirtual 151, 3) := by decide +kernel
theorem dX10_fed_4 : decode cX10_fed 4 = .ok (.aload_n 0, 1) := by decide +kernel
theorem dX10_fed_5 : decode cX10_fed 5 = .ok (.iload_n 1, 1) := by decide +kernel
theorem dX10_fed_6 : decode cX10_fed 6 = .ok (.invokevirtual 123, 3) := by decide +kernel
theorem dX10_fed_9 : decode cX10_fed 9 = .ok (.ifCond .eq 24, 3) := by decide +kernel
theorem dX10_fed_12 : decode cX10_fed 12 = .ok (.iload_n 2, 1) := by decide +kernel
theorem dX10_fed_13 : decode cX10_fed 13 = .ok (.i2l, 1) := by decide +kernel
theorem dX10_fed_14 : decode cX10_fed 14 = .ok (.lconst 0, 1) := by decide +kernel
theorem dX10_fed_15 : decode cX10_fed 15 = .ok (.ldc2_w 68, 3) := by decide +kernel
theorem dX10_fed_18 : decode cX10_fed 18 = .ok (.invokestatic 60, 3) := by decide +kernel
theorem dX10_fed_21 : decode cX10_fed 21 = .ok (.ifCond .eq 12, 3) := by decide +kernel
theorem dX10_fed_24 : decode cX10_fed 24 = .ok (.aload_n 0, 1) := by decide +kernel
theorem dX10_fed_25 : decode cX10_fed 25 = .ok (.iload_n 1, 1) := by decide +kernel
theorem dX10_fed_26 : decode cX10_fed 26 = .ok (.iload_n 2, 1) := by decide +kernel
theorem dX10_fed_27 : decode cX10_fed 27 = .ok (.invokevirtual 157, 3) := by decide +kernel
theorem dX10_fed_30 : decode cX10_fed 30 = .ok (.goto 5, 3) := by decide +kernel
theorem dX10_fed_33 : decode cX10_fed 33 = .ok (.bipush (-2), 2) := by decide +kernel
theorem dX10_fed_35 : decode cX10_fed 35 = .ok (.ireturn, 1) := by decide +kernel
theorem dX10_allBy_0 : decode cX10_allBy 0 = .ok (.iconst 0, 1) := by decide +kernel
theorem dX10_allBy_1 : decode cX10_allBy 1 = .ok (.istore_n 3, 1) := by decide +kernel
theorem dX10_allBy_2 : decode cX10_allBy 2 = .ok (.iconst 0, 1) := by decide +kernel
theorem dX10_allBy_3 : decode cX10_allBy 3 = .ok (.istore 4, 2) := by decide +kernel
theorem dX10_allBy_5 : decode cX10_allBy 5 = .ok (.iload 4, 2) := by decide +kernel
theorem dX10_allBy_7 : decode cX10_allBy 7 = .ok (.aload_n 0, 1) := by decide +kernel
theorem dX10_allBy_8 : decode cX10_allBy 8 = .ok (.getfield 103, 3) := by decide +kernel
theorem dX10_allBy_11 : decode cX10_allBy 11 = .ok (.if_icmp .ge 47, 3) := by decide +kernel
theorem dX10_allBy_14 : decode cX10_allBy 14 = .ok (.iload_n 3, 1) := by decide +kernel
theorem dX10_allBy_15 : decode cX10_allBy 15 = .ok (.iload_n 2, 1) := by decide +kernel
theorem dX10_allBy_16 : decode cX10_allBy 16 = .ok (.ifCond .ne 18, 3) := by decide +kernel
theorem dX10_allBy_19 : decode cX10_allBy 19 = .ok (.aload_n 0, 1) := by decide +kernel
theorem dX10_allBy_20 : decode cX10_allBy 20 = .ok (.getfield 40, 3) := by decide +kernel
theorem dX10_allBy_23 : decode cX10_allBy 23 = .ok (.bipush 8, 2) := by decide +kernel
theorem dX10_allBy_25 : decode cX10_allBy 25 = .ok (.iload 4, 2) := by decide +kernel
theorem dX10_allBy_27 : decode cX10_allBy 27 = .ok (.imul, 1) := by decide +kernel
theorem dX10_allBy_28 : decode cX10_allBy 28 = .ok (.iload_n 1, 1) := by decide +kernel
theorem dX10_allBy_29 : decode cX10_allBy 29 = .ok (.iadd, 1) := by decide +kernel
theorem dX10_allBy_30 : decode cX10_allBy 30 = .ok (.iaload, 1) := by decide +kernel
theorem dX10_allBy_31 : decode cX10_allBy 31 = .ok (.goto 19, 3) := by decide +kernel
theorem dX10_allBy_34 : decode cX10_allBy 34 = .ok (.aload_n 0, 1) := by decide +kernel
theorem dX10_allBy_35 : decode cX10_allBy 35 = .ok (.getfield 43, 3) := by decide +kernel
theorem dX10_allBy_38 : decode cX10_allBy 38 = .ok (.iload 4, 2) := by decide +kernel
theorem dX10_allBy_40 : decode cX10_allBy 40 = .ok (.iaload, 1) := by decide +kernel
theorem dX10_allBy_41 : decode cX10_allBy 41 = .ok (.iload_n 1, 1) := by decide +kernel
theorem dX10_allBy_42 : decode cX10_allBy 42 = .ok (.if_icmp .ne 7, 3) := by decide +kernel
theorem dX10_allBy_45 : decode cX10_allBy 45 = .ok (.iconst 1, 1) := by decide +kernel
theorem dX10_allBy_46 : decode cX10_allBy 46 = .ok (.goto 4, 3) := by decide +kernel
theorem dX10_allBy_49 : decode cX10_allBy 49 = .ok (.iconst 0, 1) := by decide +kernel
theorem dX10_allBy_50 : decode cX10_allBy 50 = .ok (.iadd, 1) := by decide +kernel
theorem dX10_allBy_51 : decode cX10_allBy 51 = .ok (.istore_n 3, 1) := by decide +kernel
theorem dX10_allBy_52 : decode cX10_allBy 52 = .ok (.iinc 4 1, 3) := by decide +kernel
theorem dX10_allBy_55 : decode cX10_allBy 55 = .ok (.goto (-50), 3) := by decide +kernel
theorem dX10_allBy_58 : decode cX10_allBy 58 = .ok (.iload_n 3, 1) := by decide +kernel
theorem dX10_allBy_59 : decode cX10_allBy 59 = .ok (.ireturn, 1) := by decide +kernel
theorem dX10_all_0 : decode cX10_all 0 = .ok (.aload_n 0, 1) := by decide +kernel
theorem dX10_all_1 : decode cX10_all 1 = .ok (.invokevirtual 151, 3) := by decide +kernel
theorem dX10_all_4 : decode cX10_all 4 = .ok (.aload_n 0, 1) := by decide +kernel
theorem dX10_all_5 : decode cX10_all 5 = .ok (.iload_n 1, 1) := by decide +kernel
theorem dX10_all_6 : decode cX10_all 6 = .ok (.invokevirtual 120, 3) := by decide +kernel
theorem dX10_all_9 : decode cX10_all 9 = .ok (.ifCond .eq 19, 3) := by decide +kernel
theorem dX10_all_12 : decode cX10_all 12 = .ok (.iload_n 2, 1) := by decide +kernel
theorem dX10_all_13 : decode cX10_all 13 = .ok (.invokestatic 89, 3) := by decide +kernel
theorem dX10_all_16 : decode cX10_all 16 = .ok (.ifCond .eq 12, 3) := by decide +kernel
theorem dX10_all_19 : decode cX10_all 19 = .ok (.aload_n 0, 1) := by decide +kernel
theorem dX10_all_20 : decode cX10_all 20 = .ok (.iload_n 1, 1) := by decide +kernel
theorem dX10_all_21 : decode cX10_all 21 = .ok (.iload_n 2, 1) := by decide +kernel
theorem dX10_all_22 : decode cX10_all 22 = .ok (.invokevirtual 160, 3) := by decide +kernel
theorem dX10_all_25 : decode cX10_all 25 = .ok (.goto 5, 3) := by decide +kernel
theorem dX10_all_28 : decode cX10_all 28 = .ok (.bipush (-2), 2) := by decide +kernel
theorem dX10_all_30 : decode cX10_all 30 = .ok (.ireturn, 1) := by decide +kernel
theorem dX10_priceOf_0 : decode cX10_priceOf 0 = .ok (.aload_n 0, 1) := by decide +kernel
theorem dX10_priceOf_1 : decode cX10_priceOf 1 = .ok (.getfield 28, 3) := by decide +kernel
theorem dX10_priceOf_4 : decode cX10_priceOf 4 = .ok (.iconst 3, 1) := by decide +kernel
theorem dX10_priceOf_5 : decode cX10_priceOf 5 = .ok (.iload_n 1, 1) := by decide +kernel
theorem dX10_priceOf_6 : decode cX10_priceOf 6 = .ok (.imul, 1) := by decide +kernel
theorem dX10_priceOf_7 : decode cX10_priceOf 7 = .ok (.iconst 2, 1) := by decide +kernel
theorem dX10_priceOf_8 : decode cX10_priceOf 8 = .ok (.iadd, 1) := by decide +kernel
theorem dX10_priceOf_9 : decode cX10_priceOf 9 = .ok (.iaload, 1) := by decide +kernel
theorem dX10_priceOf_10 : decode cX10_priceOf 10 = .ok (.iconst 3, 1) := by decide +kernel
theorem dX10_priceOf_11 : decode cX10_priceOf 11 = .ok (.aload_n 0, 1) := by decide +kernel
theorem dX10_priceOf_12 : decode cX10_priceOf 12 = .ok (.iload_n 1, 1) := by decide +kernel
theorem dX10_priceOf_13 : decode cX10_priceOf 13 = .ok (.iconst 1, 1) := by decide +kernel
theorem dX10_priceOf_14 : decode cX10_priceOf 14 = .ok (.invokevirtual 160, 3) := by decide +kernel
theorem dX10_priceOf_17 : decode cX10_priceOf 17 = .ok (.imul, 1) := by decide +kernel
theorem dX10_priceOf_18 : decode cX10_priceOf 18 = .ok (.iadd, 1) := by decide +kernel
theorem dX10_priceOf_19 : decode cX10_priceOf 19 = .ok (.aload_n 0, 1) := by decide +kernel
theorem dX10_priceOf_20 : decode cX10_priceOf 20 = .ok (.iload_n 1, 1) := by decide +kernel
theorem dX10_priceOf_21 : decode cX10_priceOf 21 = .ok (.iconst 0, 1) := by decide +kernel
theorem dX10_priceOf_22 : decode cX10_priceOf 22 = .ok (.invokevirtual 160, 3) := by decide +kernel
theorem dX10_priceOf_25 : decode cX10_priceOf 25 = .ok (.isub, 1) := by decide +kernel
theorem dX10_priceOf_26 : decode cX10_priceOf 26 = .ok (.ireturn, 1) := by decide +kernel
theorem dX10_price_0 : decode cX10_price 0 = .ok (.aload_n 0, 1) := by decide +kernel
theorem dX10_price_1 : decode cX10_price 1 = .ok (.invokevirtual 151, 3) := by decide +kernel
theorem dX10_price_4 : decode cX10_price 4 = .ok (.aload_n 0, 1) := by decide +kernel
theorem dX10_price_5 : decode cX10_price 5 = .ok (.iload_n 1, 1) := by decide +kernel
theorem dX10_price_6 : decode cX10_price 6 = .ok (.invokevirtual 120, 3) := by decide +kernel
theorem dX10_price_9 : decode cX10_price 9 = .ok (.ifCond .eq 11, 3) := by decide +kernel
theorem dX10_price_12 : decode cX10_price 12 = .ok (.aload_n 0, 1) := by decide +kernel
theorem dX10_price_13 : decode cX10_price 13 = .ok (.iload_n 1, 1) := by decide +kernel
theorem dX10_price_14 : decode cX10_price 14 = .ok (.invokevirtual 163, 3) := by decide +kernel
theorem dX10_price_17 : decode cX10_price 17 = .ok (.goto 6, 3) := by decide +kernel
theorem dX10_price_20 : decode cX10_price 20 = .ok (.sipush (-10002), 3) := by decide +kernel
theorem dX10_price_23 : decode cX10_price 23 = .ok (.ireturn, 1) := by decide +kernel
theorem dX10_poorNow_0 : decode cX10_poorNow 0 = .ok (.iconst (-1), 1) := by decide +kernel
theorem dX10_poorNow_1 : decode cX10_poorNow 1 = .ok (.istore_n 1, 1) := by decide +kernel
theorem dX10_poorNow_2 : decode cX10_poorNow 2 = .ok (.iconst 0, 1) := by decide +kernel
theorem dX10_poorNow_3 : decode cX10_poorNow 3 = .ok (.istore_n 2, 1) := by decide +kernel
theorem dX10_poorNow_4 : decode cX10_poorNow 4 = .ok (.iload_n 2, 1) := by decide +kernel
theorem dX10_poorNow_5 : decode cX10_poorNow 5 = .ok (.aload_n 0, 1) := by decide +kernel
theorem dX10_poorNow_6 : decode cX10_poorNow 6 = .ok (.getfield 97, 3) := by decide +kernel
theorem dX10_poorNow_9 : decode cX10_poorNow 9 = .ok (.if_icmp .ge 35, 3) := by decide +kernel
theorem dX10_poorNow_12 : decode cX10_poorNow 12 = .ok (.iload_n 1, 1) := by decide +kernel
theorem dX10_poorNow_13 : decode cX10_poorNow 13 = .ok (.iconst (-1), 1) := by decide +kernel
theorem dX10_poorNow_14 : decode cX10_poorNow 14 = .ok (.if_icmp .eq 18, 3) := by decide +kernel
theorem dX10_poorNow_17 : decode cX10_poorNow 17 = .ok (.aload_n 0, 1) := by decide +kernel
theorem dX10_poorNow_18 : decode cX10_poorNow 18 = .ok (.iload_n 2, 1) := by decide +kernel
theorem dX10_poorNow_19 : decode cX10_poorNow 19 = .ok (.iconst 0, 1) := by decide +kernel
theorem dX10_poorNow_20 : decode cX10_poorNow 20 = .ok (.invokevirtual 160, 3) := by decide +kernel
theorem dX10_poorNow_23 : decode cX10_poorNow 23 = .ok (.aload_n 0, 1) := by decide +kernel
theorem dX10_poorNow_24 : decode cX10_poorNow 24 = .ok (.iload_n 1, 1) := by decide +kernel
theorem dX10_poorNow_25 : decode cX10_poorNow 25 = .ok (.iconst 0, 1) := by decide +kernel
theorem dX10_poorNow_26 : decode cX10_poorNow 26 = .ok (.invokevirtual 160, 3) := by decide +kernel
theorem dX10_poorNow_29 : decode cX10_poorNow 29 = .ok (.if_icmp .le 7, 3) := by decide +kernel
theorem dX10_poorNow_32 : decode cX10_poorNow 32 = .ok (.iload_n 2, 1) := by decide +kernel
theorem dX10_poorNow_33 : decode cX10_poorNow 33 = .ok (.goto 4, 3) := by decide +kernel
theorem dX10_poorNow_36 : decode cX10_poorNow 36 = .ok (.iload_n 1, 1) := by decide +kernel
theorem dX10_poorNow_37 : decode cX10_poorNow 37 = .ok (.istore_n 1, 1) := by decide +kernel
theorem dX10_poorNow_38 : decode cX10_poorNow 38 = .ok (.iinc 2 1, 3) := by decide +kernel
theorem dX10_poorNow_41 : decode cX10_poorNow 41 = .ok (.goto (-37), 3) := by decide +kernel
theorem dX10_poorNow_44 : decode cX10_poorNow 44 = .ok (.iload_n 1, 1) := by decide +kernel
theorem dX10_poorNow_45 : decode cX10_poorNow 45 = .ok (.ireturn, 1) := by decide +kernel
theorem dX10_poor_0 : decode cX10_poor 0 = .ok (.aload_n 0, 1) := by decide +kernel
theorem dX10_poor_1 : decode cX10_poor 1 = .ok (.invokevirtual 151, 3) := by decide +kernel
theorem dX10_poor_4 : decode cX10_poor 4 = .ok (.aload_n 0, 1) := by decide +kernel
theorem dX10_poor_5 : decode cX10_poor 5 = .ok (.invokevirtual 166, 3) := by decide +kernel
theorem dX10_poor_8 : decode cX10_poor 8 = .ok (.ireturn, 1) := by decide +kernel
theorem dX10_passedNow_0 : decode cX10_passedNow 0 = .ok (.iconst 1, 1) := by decide +kernel
theorem dX10_passedNow_1 : decode cX10_passedNow 1 = .ok (.aload_n 0, 1) := by decide +kernel
theorem dX10_passedNow_2 : decode cX10_passedNow 2 = .ok (.getfield 97, 3) := by decide +kernel
theorem dX10_passedNow_5 : decode cX10_passedNow 5 = .ok (.ishl, 1) := by decide +kernel
theorem dX10_passedNow_6 : decode cX10_passedNow 6 = .ok (.iconst 1, 1) := by decide +kernel
theorem dX10_passedNow_7 : decode cX10_passedNow 7 = .ok (.isub, 1) := by decide +kernel
theorem dX10_passedNow_8 : decode cX10_passedNow 8 = .ok (.istore_n 1, 1) := by decide +kernel
theorem dX10_passedNow_9 : decode cX10_passedNow 9 = .ok (.iconst 0, 1) := by decide +kernel
theorem dX10_passedNow_10 : decode cX10_passedNow 10 = .ok (.istore_n 2, 1) := by decide +kernel
theorem dX10_passedNow_11 : decode cX10_passedNow 11 = .ok (.iload_n 2, 1) := by decide +kernel
theorem dX10_passedNow_12 : decode cX10_passedNow 12 = .ok (.aload_n 0, 1) := by decide +kernel
theorem dX10_passedNow_13 : decode cX10_passedNow 13 = .ok (.getfield 103, 3) := by decide +kernel
theorem dX10_passedNow_16 : decode cX10_passedNow 16 = .ok (.if_icmp .ge 20, 3) := by decide +kernel
theorem dX10_passedNow_19 : decode cX10_passedNow 19 = .ok (.iload_n 1, 1) := by decide +kernel
theorem dX10_passedNow_20 : decode cX10_passedNow 20 = .ok (.aload_n 0, 1) := by decide +kernel
theorem dX10_passedNow_21 : decode cX10_passedNow 21 = .ok (.getfield 52, 3) := by decide +kernel
theorem dX10_passedNow_24 : decode cX10_passedNow 24 = .ok (.iload_n 2, 1) := by decide +kernel
theorem dX10_passedNow_25 : decode cX10_passedNow 25 = .ok (.iaload, 1) := by decide +kernel
theorem dX10_passedNow_26 : decode cX10_passedNow 26 = .ok (.iconst (-1), 1) := by decide +kernel
theorem dX10_passedNow_27 : decode cX10_passedNow 27 = .ok (.ixor, 1) := by decide +kernel
theorem dX10_passedNow_28 : decode cX10_passedNow 28 = .ok (.iand, 1) := by decide +kernel
theorem dX10_passedNow_29 : decode cX10_passedNow 29 = .ok (.istore_n 1, 1) := by decide +kernel
theorem dX10_passedNow_30 : decode cX10_passedNow 30 = .ok (.iinc 2 1, 3) := by decide +kernel
theorem dX10_passedNow_33 : decode cX10_passedNow 33 = .ok (.goto (-22), 3) := by decide +kernel
theorem dX10_passedNow_36 : decode cX10_passedNow 36 = .ok (.iload_n 1, 1) := by decide +kernel
theorem dX10_passedNow_37 : decode cX10_passedNow 37 = .ok (.ireturn, 1) := by decide +kernel
theorem dX10_passed_0 : decode cX10_passed 0 = .ok (.aload_n 0, 1) := by decide +kernel
theorem dX10_passed_1 : decode cX10_passed 1 = .ok (.invokevirtual 151, 3) := by decide +kernel
theorem dX10_passed_4 : decode cX10_passed 4 = .ok (.aload_n 0, 1) := by decide +kernel
theorem dX10_passed_5 : decode cX10_passed 5 = .ok (.invokevirtual 169, 3) := by decide +kernel
theorem dX10_passed_8 : decode cX10_passed 8 = .ok (.ireturn, 1) := by decide +kernel
theorem dX10_weighs_0 : decode cX10_weighs 0 = .ok (.aload_n 0, 1) := by decide +kernel
theorem dX10_weighs_1 : decode cX10_weighs 1 = .ok (.iload_n 1, 1) := by decide +kernel
theorem dX10_weighs_2 : decode cX10_weighs 2 = .ok (.iconst 0, 1) := by decide +kernel
theorem dX10_weighs_3 : decode cX10_weighs 3 = .ok (.invokevirtual 160, 3) := by decide +kernel
theorem dX10_weighs_6 : decode cX10_weighs 6 = .ok (.istore_n 3, 1) := by decide +kernel
theorem dX10_weighs_7 : decode cX10_weighs 7 = .ok (.aload_n 0, 1) := by decide +kernel
theorem dX10_weighs_8 : decode cX10_weighs 8 = .ok (.iload_n 1, 1) := by decide +kernel
theorem dX10_weighs_9 : decode cX10_weighs 9 = .ok (.iconst 1, 1) := by decide +kernel
theorem dX10_weighs_10 : decode cX10_weighs 10 = .ok (.invokevirtual 160, 3) := by decide +kernel
theorem dX10_weighs_13 : decode cX10_weighs 13 = .ok (.istore 4, 2) := by decide +kernel
theorem dX10_weighs_15 : decode cX10_weighs 15 = .ok (.aload_n 0, 1) := by decide +kernel
theorem dX10_weighs_16 : decode cX10_weighs 16 = .ok (.getfield 172, 3) := by decide +kernel
theorem dX10_weighs_19 : decode cX10_weighs 19 = .ok (.iconst (-1), 1) := by decide +kernel
theorem dX10_weighs_20 : decode cX10_weighs 20 = .ok (.if_icmp .eq 28, 3) := by decide +kernel
theorem dX10_weighs_23 : decode cX10_weighs 23 = .ok (.iload_n 3, 1) := by decide +kernel
theorem dX10_weighs_24 : decode cX10_weighs 24 = .ok (.aload_n 0, 1) := by decide +kernel
theorem dX10_weighs_25 : decode cX10_weighs 25 = .ok (.getfield 175, 3) := by decide +kernel
theorem dX10_weighs_28 : decode cX10_weighs 28 = .ok (.if_icmp .lt 20, 3) := by decide +kernel
theorem dX10_weighs_31 : decode cX10_weighs 31 = .ok (.iload_n 3, 1) := by decide +kernel
theorem dX10_weighs_32 : decode cX10_weighs 32 = .ok (.aload_n 0, 1) := by decide +kernel
theorem dX10_weighs_33 : decode cX10_weighs 33 = .ok (.getfield 175, 3) := by decide +kernel
theorem dX10_weighs_36 : decode cX10_weighs 36 = .ok (.if_icmp .ne 28, 3) := by decide +kernel
theorem dX10_weighs_39 : decode cX10_weighs 39 = .ok (.iload 4, 2) := by decide +kernel
theorem dX10_weighs_41 : decode cX10_weighs 41 = .ok (.aload_n 0, 1) := by decide +kernel
theorem dX10_weighs_42 : decode cX10_weighs 42 = .ok (.getfield 178, 3) := by decide +kernel
theorem dX10_weighs_45 : decode cX10_weighs 45 = .ok (.if_icmp .le 19, 3) := by decide +kernel
theorem dX10_weighs_48 : decode cX10_weighs 48 = .ok (.aload_n 0, 1) := by decide +kernel
theorem dX10_weighs_49 : decode cX10_weighs 49 = .ok (.iload_n 2, 1) := by decide +kernel
theorem dX10_weighs_50 : decode cX10_weighs 50 = .ok (.putfield 172, 3) := by decide +kernel
theorem dX10_weighs_53 : decode cX10_weighs 53 = .ok (.aload_n 0, 1) := by decide +kernel
theorem dX10_weighs_54 : decode cX10_weighs 54 = .ok (.iload_n 3, 1) := by decide +kernel
theorem dX10_weighs_55 : decode cX10_weighs 55 = .ok (.putfield 175, 3) := by decide +kernel
theorem dX10_weighs_58 : decode cX10_weighs 58 = .ok (.aload_n 0, 1) := by decide +kernel
theorem dX10_weighs_59 : decode cX10_weighs 59 = .ok (.iload 4, 2) := by decide +kernel
theorem dX10_weighs_61 : decode cX10_weighs 61 = .ok (.putfield 178, 3) := by decide +kernel
theorem dX10_weighs_64 : decode cX10_weighs 64 = .ok (.return_, 1) := by decide +kernel
theorem dX10_livesAt_0 : decode cX10_livesAt 0 = .ok (.iconst 0, 1) := by decide +kernel
theorem dX10_livesAt_1 : decode cX10_livesAt 1 = .ok (.istore_n 3, 1) := by decide +kernel
theorem dX10_livesAt_2 : decode cX10_livesAt 2 = .ok (.iconst 0, 1) := by decide +kernel
theorem dX10_livesAt_3 : decode cX10_livesAt 3 = .ok (.istore 4, 2) := by decide +kernel
theorem dX10_livesAt_5 : decode cX10_livesAt 5 = .ok (.iload 4, 2) := by decide +kernel
theorem dX10_livesAt_7 : decode cX10_livesAt 7 = .ok (.aload_n 0, 1) := by decide +kernel
theorem dX10_livesAt_8 : decode cX10_livesAt 8 = .ok (.getfield 97, 3) := by decide +kernel
theorem dX10_livesAt_11 : decode cX10_livesAt 11 = .ok (.if_icmp .ge 110, 3) := by decide +kernel
theorem dX10_livesAt_14 : decode cX10_livesAt 14 = .ok (.aload_n 0, 1) := by decide +kernel
theorem dX10_livesAt_15 : decode cX10_livesAt 15 = .ok (.getfield 34, 3) := by decide +kernel
theorem dX10_livesAt_18 : decode cX10_livesAt 18 = .ok (.iconst 0, 1) := by decide +kernel
theorem dX10_livesAt_19 : decode cX10_livesAt 19 = .ok (.iaload, 1) := by decide +kernel
theorem dX10_livesAt_20 : decode cX10_livesAt 20 = .ok (.iconst 1, 1) := by decide +kernel
theorem dX10_livesAt_21 : decode cX10_livesAt 21 = .ok (.if_icmp .ne 14, 3) := by decide +kernel
theorem dX10_livesAt_24 : decode cX10_livesAt 24 = .ok (.aload_n 0, 1) := by decide +kernel
theorem dX10_livesAt_25 : decode cX10_livesAt 25 = .ok (.getfield 97, 3) := by decide +kernel
theorem dX10_livesAt_28 : decode cX10_livesAt 28 = .ok (.iconst 1, 1) := by decide +kernel
theorem dX10_livesAt_29 : decode cX10_livesAt 29 = .ok (.isub, 1) := by decide +kernel
theorem dX10_livesAt_30 : decode cX10_livesAt 30 = .ok (.iload_n 3, 1) := by decide +kernel
theorem dX10_livesAt_31 : decode cX10_livesAt 31 = .ok (.isub, 1) := by decide +kernel
theorem dX10_livesAt_32 : decode cX10_livesAt 32 = .ok (.goto 4, 3) := by decide +kernel
theorem dX10_livesAt_35 : decode cX10_livesAt 35 = .ok (.iload_n 3, 1) := by decide +kernel
theorem dX10_livesAt_36 : decode cX10_livesAt 36 = .ok (.istore 5, 2) := by decide +kernel
theorem dX10_livesAt_38 : decode cX10_livesAt 38 = .ok (.iload_n 3, 1) := by decide +kernel
theorem dX10_livesAt_39 : decode cX10_livesAt 39 = .ok (.iload 4, 2) := by decide +kernel
theorem dX10_livesAt_41 : decode cX10_livesAt 41 = .ok (.iload_n 2, 1) := by decide +kernel
theorem dX10_livesAt_42 : decode cX10_livesAt 42 = .ok (.if_icmp .eq 13, 3) := by decide +kernel
theorem dX10_livesAt_45 : decode cX10_livesAt 45 = .ok (.iload 5, 2) := by decide +kernel
theorem dX10_livesAt_47 : decode cX10_livesAt 47 = .ok (.iload_n 1, 1) := by decide +kernel
theorem dX10_livesAt_48 : decode cX10_livesAt 48 = .ok (.if_icmp .ne 7, 3) := by decide +kernel
theorem dX10_livesAt_51 : decode cX10_livesAt 51 = .ok (.iconst 1, 1) := by decide +kernel
theorem dX10_livesAt_52 : decode cX10_livesAt 52 = .ok (.goto 4, 3) := by decide +kernel
theorem dX10_livesAt_55 : decode cX10_livesAt 55 = .ok (.iconst 0, 1) := by decide +kernel
theorem dX10_livesAt_56 : decode cX10_livesAt 56 = .ok (.iadd, 1) := by decide +kernel
theorem dX10_livesAt_57 : decode cX10_livesAt 57 = .ok (.istore_n 3, 1) := by decide +kernel
theorem dX10_livesAt_58 : decode cX10_livesAt 58 = .ok (.aload_n 0, 1) := by decide +kernel
theorem dX10_livesAt_59 : decode cX10_livesAt 59 = .ok (.getfield 34, 3) := by decide +kernel
theorem dX10_livesAt_62 : decode cX10_livesAt 62 = .ok (.iconst 0, 1) := by decide +kernel
theorem dX10_livesAt_63 : decode cX10_livesAt 63 = .ok (.iaload, 1) := by decide +kernel
theorem dX10_livesAt_64 : decode cX10_livesAt 64 = .ok (.iconst 1, 1) := by decide +kernel
theorem dX10_livesAt_65 : decode cX10_livesAt 65 = .ok (.if_icmp .ne 14, 3) := by decide +kernel
theorem dX10_livesAt_68 : decode cX10_livesAt 68 = .ok (.aload_n 0, 1) := by decide +kernel
theorem dX10_livesAt_69 : decode cX10_livesAt 69 = .ok (.getfield 97, 3) := by decide +kernel
theorem dX10_livesAt_72 : decode cX10_livesAt 72 = .ok (.iconst 1, 1) := by decide +kernel
theorem dX10_livesAt_73 : decode cX10_livesAt 73 = .ok (.isub, 1) := by decide +kernel
theorem dX10_livesAt_74 : decode cX10_livesAt 74 = .ok (.iload_n 3, 1) := by decide +kernel
theorem dX10_livesAt_75 : decode cX10_livesAt 75 = .ok (.isub, 1) := by decide +kernel
theorem dX10_livesAt_76 : decode cX10_livesAt 76 = .ok (.goto 4, 3) := by decide +kernel
theorem dX10_livesAt_79 : decode cX10_livesAt 79 = .ok (.iload_n 3, 1) := by decide +kernel
theorem dX10_livesAt_80 : decode cX10_livesAt 80 = .ok (.istore 5, 2) := by decide +kernel
theorem dX10_livesAt_82 : decode cX10_livesAt 82 = .ok (.aload_n 0, 1) := by decide +kernel
theorem dX10_livesAt_83 : decode cX10_livesAt 83 = .ok (.getfield 37, 3) := by decide +kernel
theorem dX10_livesAt_86 : decode cX10_livesAt 86 = .ok (.iload 4, 2) := by decide +kernel
theorem dX10_livesAt_88 : decode cX10_livesAt 88 = .ok (.iload 4, 2) := by decide +kernel
theorem dX10_livesAt_90 : decode cX10_livesAt 90 = .ok (.iload_n 2, 1) := by decide +kernel
theorem dX10_livesAt_91 : decode cX10_livesAt 91 = .ok (.if_icmp .ne 7, 3) := by decide +kernel
theorem dX10_livesAt_94 : decode cX10_livesAt 94 = .ok (.iload_n 1, 1) := by decide +kernel
theorem dX10_livesAt_95 : decode cX10_livesAt 95 = .ok (.goto 5, 3) := by decide +kernel
theorem dX10_livesAt_98 : decode cX10_livesAt 98 = .ok (.iload 5, 2) := by decide +kernel
theorem dX10_livesAt_100 : decode cX10_livesAt 100 = .ok (.iastore, 1) := by decide +kernel
theorem dX10_livesAt_101 : decode cX10_livesAt 101 = .ok (.iload_n 3, 1) := by decide +kernel
theorem dX10_livesAt_102 : decode cX10_livesAt 102 = .ok (.iload 4, 2) := by decide +kernel
theorem dX10_livesAt_104 : decode cX10_livesAt 104 = .ok (.iload_n 2, 1) := by decide +kernel
theorem dX10_livesAt_105 : decode cX10_livesAt 105 = .ok (.if_icmp .ne 7, 3) := by decide +kernel
theorem dX10_livesAt_108 : decode cX10_livesAt 108 = .ok (.iconst 0, 1) := by decide +kernel
theorem dX10_livesAt_109 : decode cX10_livesAt 109 = .ok (.goto 4, 3) := by decide +kernel
theorem dX10_livesAt_112 : decode cX10_livesAt 112 = .ok (.iconst 1, 1) := by decide +kernel
theorem dX10_livesAt_113 : decode cX10_livesAt 113 = .ok (.iadd, 1) := by decide +kernel
theorem dX10_livesAt_114 : decode cX10_livesAt 114 = .ok (.istore_n 3, 1) := by decide +kernel
theorem dX10_livesAt_115 : decode cX10_livesAt 115 = .ok (.iinc 4 1, 3) := by decide +kernel
theorem dX10_livesAt_118 : decode cX10_livesAt 118 = .ok (.goto (-113), 3) := by decide +kernel
theorem dX10_livesAt_121 : decode cX10_livesAt 121 = .ok (.return_, 1) := by decide +kernel
theorem dX10_liveOf_0 : decode cX10_liveOf 0 = .ok (.aload_n 0, 1) := by decide +kernel
theorem dX10_liveOf_1 : decode cX10_liveOf 1 = .ok (.iconst (-1), 1) := by decide +kernel
theorem dX10_liveOf_2 : decode cX10_liveOf 2 = .ok (.putfield 172, 3) := by decide +kernel
theorem dX10_liveOf_5 : decode cX10_liveOf 5 = .ok (.iconst 0, 1) := by decide +kernel
theorem dX10_liveOf_6 : decode cX10_liveOf 6 = .ok (.istore_n 3, 1) := by decide +kernel
theorem dX10_liveOf_7 : decode cX10_liveOf 7 = .ok (.iload_n 3, 1) := by decide +kernel
theorem dX10_liveOf_8 : decode cX10_liveOf 8 = .ok (.aload_n 0, 1) := by decide +kernel
theorem dX10_liveOf_9 : decode cX10_liveOf 9 = .ok (.getfield 97, 3) := by decide +kernel
theorem dX10_liveOf_12 : decode cX10_liveOf 12 = .ok (.if_icmp .ge 25, 3) := by decide +kernel
theorem dX10_liveOf_15 : decode cX10_liveOf 15 = .ok (.aload_n 0, 1) := by decide +kernel
theorem dX10_liveOf_16 : decode cX10_liveOf 16 = .ok (.iload_n 1, 1) := by decide +kernel
theorem dX10_liveOf_17 : decode cX10_liveOf 17 = .ok (.iload_n 3, 1) := by decide +kernel
theorem dX10_liveOf_18 : decode cX10_liveOf 18 = .ok (.invokevirtual 181, 3) := by decide +kernel
theorem dX10_liveOf_21 : decode cX10_liveOf 21 = .ok (.aload_n 0, 1) := by decide +kernel
theorem dX10_liveOf_22 : decode cX10_liveOf 22 = .ok (.invokevirtual 148, 3) := by decide +kernel
theorem dX10_liveOf_25 : decode cX10_liveOf 25 = .ok (.aload_n 0, 1) := by decide +kernel
theorem dX10_liveOf_26 : decode cX10_liveOf 26 = .ok (.iload_n 1, 1) := by decide +kernel
theorem dX10_liveOf_27 : decode cX10_liveOf 27 = .ok (.iload_n 3, 1) := by decide +kernel
theorem dX10_liveOf_28 : decode cX10_liveOf 28 = .ok (.invokevirtual 185, 3) := by decide +kernel
theorem dX10_liveOf_31 : decode cX10_liveOf 31 = .ok (.iinc 3 1, 3) := by decide +kernel
theorem dX10_liveOf_34 : decode cX10_liveOf 34 = .ok (.goto (-27), 3) := by decide +kernel
theorem dX10_liveOf_37 : decode cX10_liveOf 37 = .ok (.aload_n 0, 1) := by decide +kernel
theorem dX10_liveOf_38 : decode cX10_liveOf 38 = .ok (.invokevirtual 126, 3) := by decide +kernel
theorem dX10_liveOf_41 : decode cX10_liveOf 41 = .ok (.aload_n 0, 1) := by decide +kernel
theorem dX10_liveOf_42 : decode cX10_liveOf 42 = .ok (.invokevirtual 148, 3) := by decide +kernel
theorem dX10_liveOf_45 : decode cX10_liveOf 45 = .ok (.iload_n 2, 1) := by decide +kernel
theorem dX10_liveOf_46 : decode cX10_liveOf 46 = .ok (.ifCond .ne 10, 3) := by decide +kernel
theorem dX10_liveOf_49 : decode cX10_liveOf 49 = .ok (.aload_n 0, 1) := by decide +kernel
theorem dX10_liveOf_50 : decode cX10_liveOf 50 = .ok (.getfield 172, 3) := by decide +kernel
theorem dX10_liveOf_53 : decode cX10_liveOf 53 = .ok (.goto 7, 3) := by decide +kernel
theorem dX10_liveOf_56 : decode cX10_liveOf 56 = .ok (.aload_n 0, 1) := by decide +kernel
theorem dX10_liveOf_57 : decode cX10_liveOf 57 = .ok (.getfield 175, 3) := by decide +kernel
theorem dX10_liveOf_60 : decode cX10_liveOf 60 = .ok (.ireturn, 1) := by decide +kernel
theorem dX10_live_0 : decode cX10_live 0 = .ok (.aload_n 0, 1) := by decide +kernel
theorem dX10_live_1 : decode cX10_live 1 = .ok (.invokevirtual 151, 3) := by decide +kernel
theorem dX10_live_4 : decode cX10_live 4 = .ok (.aload_n 0, 1) := by decide +kernel
theorem dX10_live_5 : decode cX10_live 5 = .ok (.iload_n 1, 1) := by decide +kernel
theorem dX10_live_6 : decode cX10_live 6 = .ok (.invokevirtual 120, 3) := by decide +kernel
theorem dX10_live_9 : decode cX10_live 9 = .ok (.ifCond .eq 19, 3) := by decide +kernel
theorem dX10_live_12 : decode cX10_live 12 = .ok (.iload_n 2, 1) := by decide +kernel
theorem dX10_live_13 : decode cX10_live 13 = .ok (.invokestatic 89, 3) := by decide +kernel
theorem dX10_live_16 : decode cX10_live 16 = .ok (.ifCond .eq 12, 3) := by decide +kernel
theorem dX10_live_19 : decode cX10_live 19 = .ok (.aload_n 0, 1) := by decide +kernel
theorem dX10_live_20 : decode cX10_live 20 = .ok (.iload_n 1, 1) := by decide +kernel
theorem dX10_live_21 : decode cX10_live 21 = .ok (.iload_n 2, 1) := by decide +kernel
theorem dX10_live_22 : decode cX10_live 22 = .ok (.invokevirtual 188, 3) := by decide +kernel
theorem dX10_live_25 : decode cX10_live 25 = .ok (.goto 5, 3) := by decide +kernel
theorem dX10_live_28 : decode cX10_live 28 = .ok (.bipush (-2), 2) := by decide +kernel
theorem dX10_live_30 : decode cX10_live 30 = .ok (.ireturn, 1) := by decide +kernel
theorem dX10_cookOf_0 : decode cX10_cookOf 0 = .ok (.aload_n 0, 1) := by decide +kernel
theorem dX10_cookOf_1 : decode cX10_cookOf 1 = .ok (.getfield 28, 3) := by decide +kernel
theorem dX10_cookOf_4 : decode cX10_cookOf 4 = .ok (.iconst 3, 1) := by decide +kernel
theorem dX10_cookOf_5 : decode cX10_cookOf 5 = .ok (.iload_n 1, 1) := by decide +kernel
theorem dX10_cookOf_6 : decode cX10_cookOf 6 = .ok (.imul, 1) := by decide +kernel
theorem dX10_cookOf_7 : decode cX10_cookOf 7 = .ok (.iaload, 1) := by decide +kernel
theorem dX10_cookOf_8 : decode cX10_cookOf 8 = .ok (.istore_n 3, 1) := by decide +kernel
theorem dX10_cookOf_9 : decode cX10_cookOf 9 = .ok (.aload_n 0, 1) := by decide +kernel
theorem dX10_cookOf_10 : decode cX10_cookOf 10 = .ok (.iconst (-1), 1) := by decide +kernel
theorem dX10_cookOf_11 : decode cX10_cookOf 11 = .ok (.putfield 172, 3) := by decide +kernel
theorem dX10_cookOf_14 : decode cX10_cookOf 14 = .ok (.iconst 0, 1) := by decide +kernel
theorem dX10_cookOf_15 : decode cX10_cookOf 15 = .ok (.istore 4, 2) := by decide +kernel
theorem dX10_cookOf_17 : decode cX10_cookOf 17 = .ok (.iload 4, 2) := by decide +kernel
theorem dX10_cookOf_19 : decode cX10_cookOf 19 = .ok (.iconst 4, 1) := by decide +kernel
theorem dX10_cookOf_20 : decode cX10_cookOf 20 = .ok (.if_icmp .ge 30, 3) := by decide +kernel
theorem dX10_cookOf_23 : decode cX10_cookOf 23 = .ok (.aload_n 0, 1) := by decide +kernel
theorem dX10_cookOf_24 : decode cX10_cookOf 24 = .ok (.getfield 28, 3) := by decide +kernel
theorem dX10_cookOf_27 : decode cX10_cookOf 27 = .ok (.iconst 3, 1) := by decide +kernel
theorem dX10_cookOf_28 : decode cX10_cookOf 28 = .ok (.iload_n 1, 1) := by decide +kernel
theorem dX10_cookOf_29 : decode cX10_cookOf 29 = .ok (.imul, 1) := by decide +kernel
theorem dX10_cookOf_30 : decode cX10_cookOf 30 = .ok (.iload 4, 2) := by decide +kernel
theorem dX10_cookOf_32 : decode cX10_cookOf 32 = .ok (.iastore, 1) := by decide +kernel
theorem dX10_cookOf_33 : decode cX10_cookOf 33 = .ok (.aload_n 0, 1) := by decide +kernel
theorem dX10_cookOf_34 : decode cX10_cookOf 34 = .ok (.invokevirtual 148, 3) := by decide +kernel
theorem dX10_cookOf_37 : decode cX10_cookOf 37 = .ok (.aload_n 0, 1) := by decide +kernel
theorem dX10_cookOf_38 : decode cX10_cookOf 38 = .ok (.iload_n 1, 1) := by decide +kernel
theorem dX10_cookOf_39 : decode cX10_cookOf 39 = .ok (.iload 4, 2) := by decide +kernel
theorem dX10_cookOf_41 : decode cX10_cookOf 41 = .ok (.invokevirtual 185, 3) := by decide +kernel
theorem dX10_cookOf_44 : decode cX10_cookOf 44 = .ok (.iinc 4 1, 3) := by decide +kernel
theorem dX10_cookOf_47 : decode cX10_cookOf 47 = .ok (.goto (-30), 3) := by decide +kernel
theorem dX10_cookOf_50 : decode cX10_cookOf 50 = .ok (.aload_n 0, 1) := by decide +kernel
theorem dX10_cookOf_51 : decode cX10_cookOf 51 = .ok (.getfield 28, 3) := by decide +kernel
theorem dX10_cookOf_54 : decode cX10_cookOf 54 = .ok (.iconst 3, 1) := by decide +kernel
theorem dX10_cookOf_55 : decode cX10_cookOf 55 = .ok (.iload_n 1, 1) := by decide +kernel
theorem dX10_cookOf_56 : decode cX10_cookOf 56 = .ok (.imul, 1) := by decide +kernel
theorem dX10_cookOf_57 : decode cX10_cookOf 57 = .ok (.iload_n 3, 1) := by decide +kernel
theorem dX10_cookOf_58 : decode cX10_cookOf 58 = .ok (.iastore, 1) := by decide +kernel
theorem dX10_cookOf_59 : decode cX10_cookOf 59 = .ok (.aload_n 0, 1) := by decide +kernel
theorem dX10_cookOf_60 : decode cX10_cookOf 60 = .ok (.invokevirtual 148, 3) := by decide +kernel
theorem dX10_cookOf_63 : decode cX10_cookOf 63 = .ok (.iload_n 2, 1) := by decide +kernel
theorem dX10_cookOf_64 : decode cX10_cookOf 64 = .ok (.ifCond .ne 10, 3) := by decide +kernel
theorem dX10_cookOf_67 : decode cX10_cookOf 67 = .ok (.aload_n 0, 1) := by decide +kernel
theorem dX10_cookOf_68 : decode cX10_cookOf 68 = .ok (.getfield 172, 3) := by decide +kernel
theorem dX10_cookOf_71 : decode cX10_cookOf 71 = .ok (.goto 7, 3) := by decide +kernel
theorem dX10_cookOf_74 : decode cX10_cookOf 74 = .ok (.aload_n 0, 1) := by decide +kernel
theorem dX10_cookOf_75 : decode cX10_cookOf 75 = .ok (.getfield 175, 3) := by decide +kernel
theorem dX10_cookOf_78 : decode cX10_cookOf 78 = .ok (.ireturn, 1) := by decide +kernel
theorem dX10_cook_0 : decode cX10_cook 0 = .ok (.aload_n 0, 1) := by decide +kernel
theorem dX10_cook_1 : decode cX10_cook 1 = .ok (.invokevirtual 151, 3) := by decide +kernel
theorem dX10_cook_4 : decode cX10_cook 4 = .ok (.aload_n 0, 1) := by decide +kernel
theorem dX10_cook_5 : decode cX10_cook 5 = .ok (.iload_n 1, 1) := by decide +kernel
theorem dX10_cook_6 : decode cX10_cook 6 = .ok (.invokevirtual 120, 3) := by decide +kernel
theorem dX10_cook_9 : decode cX10_cook 9 = .ok (.ifCond .eq 19, 3) := by decide +kernel
theorem dX10_cook_12 : decode cX10_cook 12 = .ok (.iload_n 2, 1) := by decide +kernel
theorem dX10_cook_13 : decode cX10_cook 13 = .ok (.invokestatic 89, 3) := by decide +kernel
theorem dX10_cook_16 : decode cX10_cook 16 = .ok (.ifCond .eq 12, 3) := by decide +kernel
theorem dX10_cook_19 : decode cX10_cook 19 = .ok (.aload_n 0, 1) := by decide +kernel
theorem dX10_cook_20 : decode cX10_cook 20 = .ok (.iload_n 1, 1) := by decide +kernel
theorem dX10_cook_21 : decode cX10_cook 21 = .ok (.iload_n 2, 1) := by decide +kernel
theorem dX10_cook_22 : decode cX10_cook 22 = .ok (.invokevirtual 191, 3) := by decide +kernel
theorem dX10_cook_25 : decode cX10_cook 25 = .ok (.goto 5, 3) := by decide +kernel
theorem dX10_cook_28 : decode cX10_cook 28 = .ok (.bipush (-2), 2) := by decide +kernel
theorem dX10_cook_30 : decode cX10_cook 30 = .ok (.ireturn, 1) := by decide +kernel
theorem dX10_fastOf_0 : decode cX10_fastOf 0 = .ok (.aload_n 0, 1) := by decide +kernel
theorem dX10_fastOf_1 : decode cX10_fastOf 1 = .ok (.getfield 34, 3) := by decide +kernel
theorem dX10_fastOf_4 : decode cX10_fastOf 4 = .ok (.iconst 1, 1) := by decide +kernel
theorem dX10_fastOf_5 : decode cX10_fastOf 5 = .ok (.iaload, 1) := by decide +kernel
theorem dX10_fastOf_6 : decode cX10_fastOf 6 = .ok (.istore 4, 2) := by decide +kernel
theorem dX10_fastOf_8 : decode cX10_fastOf 8 = .ok (.iconst (-1), 1) := by decide +kernel
theorem dX10_fastOf_9 : decode cX10_fastOf 9 = .ok (.istore 5, 2) := by decide +kernel
theorem dX10_fastOf_11 : decode cX10_fastOf 11 = .ok (.iconst 0, 1) := by decide +kernel
theorem dX10_fastOf_12 : decode cX10_fastOf 12 = .ok (.istore 6, 2) := by decide +kernel
theorem dX10_fastOf_14 : decode cX10_fastOf 14 = .ok (.iload 6, 2) := by decide +kernel
theorem dX10_fastOf_16 : decode cX10_fastOf 16 = .ok (.iconst 1, 1) := by decide +kernel
theorem dX10_fastOf_17 : decode cX10_fastOf 17 = .ok (.aload_n 0, 1) := by decide +kernel
theorem dX10_fastOf_18 : decode cX10_fastOf 18 = .ok (.getfield 97, 3) := by decide +kernel
theorem dX10_fastOf_21 : decode cX10_fastOf 21 = .ok (.ishl, 1) := by decide +kernel
theorem dX10_fastOf_22 : decode cX10_fastOf 22 = .ok (.if_icmp .ge 60, 3) := by decide +kernel
theorem dX10_fastOf_25 : decode cX10_fastOf 25 = .ok (.aload_n 0, 1) := by decide +kernel
theorem dX10_fastOf_26 : decode cX10_fastOf 26 = .ok (.getfield 34, 3) := by decide +kernel
theorem dX10_fastOf_29 : decode cX10_fastOf 29 = .ok (.iconst 1, 1) := by decide +kernel
theorem dX10_fastOf_30 : decode cX10_fastOf 30 = .ok (.iload 6, 2) := by decide +kernel
theorem dX10_fastOf_32 : decode cX10_fastOf 32 = .ok (.iastore, 1) := by decide +kernel
theorem dX10_fastOf_33 : decode cX10_fastOf 33 = .ok (.aload_n 0, 1) := by decide +kernel
theorem dX10_fastOf_34 : decode cX10_fastOf 34 = .ok (.iload_n 2, 1) := by decide +kernel
theorem dX10_fastOf_35 : decode cX10_fastOf 35 = .ok (.invokevirtual 144, 3) := by decide +kernel
theorem dX10_fastOf_38 : decode cX10_fastOf 38 = .ok (.aload_n 0, 1) := by decide +kernel
theorem dX10_fastOf_39 : decode cX10_fastOf 39 = .ok (.getfield 43, 3) := by decide +kernel
theorem dX10_fastOf_42 : decode cX10_fastOf 42 = .ok (.iload_n 2, 1) := by decide +kernel
theorem dX10_fastOf_43 : decode cX10_fastOf 43 = .ok (.iaload, 1) := by decide +kernel
theorem dX10_fastOf_44 : decode cX10_fastOf 44 = .ok (.iload_n 1, 1) := by decide +kernel
theorem dX10_fastOf_45 : decode cX10_fastOf 45 = .ok (.if_icmp .ne 27, 3) := by decide +kernel
theorem dX10_fastOf_48 : decode cX10_fastOf 48 = .ok (.iload 5, 2) := by decide +kernel
theorem dX10_fastOf_50 : decode cX10_fastOf 50 = .ok (.iconst (-1), 1) := by decide +kernel
theorem dX10_fastOf_51 : decode cX10_fastOf 51 = .ok (.if_icmp .eq 16, 3) := by decide +kernel
theorem dX10_fastOf_54 : decode cX10_fastOf 54 = .ok (.iload 6, 2) := by decide +kernel
theorem dX10_fastOf_56 : decode cX10_fastOf 56 = .ok (.invokestatic 154, 3) := by decide +kernel
theorem dX10_fastOf_59 : decode cX10_fastOf 59 = .ok (.iload 5, 2) := by decide +kernel
theorem dX10_fastOf_61 : decode cX10_fastOf 61 = .ok (.invokestatic 154, 3) := by decide +kernel
theorem dX10_fastOf_64 : decode cX10_fastOf 64 = .ok (.if_icmp .ge 8, 3) := by decide +kernel
theorem dX10_fastOf_67 : decode cX10_fastOf 67 = .ok (.iload 6, 2) := by decide +kernel
theorem dX10_fastOf_69 : decode cX10_fastOf 69 = .ok (.goto 5, 3) := by decide +kernel
theorem dX10_fastOf_72 : decode cX10_fastOf 72 = .ok (.iload 5, 2) := by decide +kernel
theorem dX10_fastOf_74 : decode cX10_fastOf 74 = .ok (.istore 5, 2) := by decide +kernel
theorem dX10_fastOf_76 : decode cX10_fastOf 76 = .ok (.iinc 6 1, 3) := by decide +kernel
theorem dX10_fastOf_79 : decode cX10_fastOf 79 = .ok (.goto (-65), 3) := by decide +kernel
theorem dX10_fastOf_82 : decode cX10_fastOf 82 = .ok (.aload_n 0, 1) := by decide +kernel
theorem dX10_fastOf_83 : decode cX10_fastOf 83 = .ok (.getfield 34, 3) := by decide +kernel
theorem dX10_fastOf_86 : decode cX10_fastOf 86 = .ok (.iconst 1, 1) := by decide +kernel
theorem dX10_fastOf_87 : decode cX10_fastOf 87 = .ok (.iload 4, 2) := by decide +kernel
theorem dX10_fastOf_89 : decode cX10_fastOf 89 = .ok (.iastore, 1) := by decide +kernel
theorem dX10_fastOf_90 : decode cX10_fastOf 90 = .ok (.aload_n 0, 1) := by decide +kernel
theorem dX10_fastOf_91 : decode cX10_fastOf 91 = .ok (.iload_n 2, 1) := by decide +kernel
theorem dX10_fastOf_92 : decode cX10_fastOf 92 = .ok (.invokevirtual 144, 3) := by decide +kernel
theorem dX10_fastOf_95 : decode cX10_fastOf 95 = .ok (.iload 5, 2) := by decide +kernel
theorem dX10_fastOf_97 : decode cX10_fastOf 97 = .ok (.iconst (-1), 1) := by decide +kernel
theorem dX10_fastOf_98 : decode cX10_fastOf 98 = .ok (.if_icmp .eq 8, 3) := by decide +kernel
theorem dX10_fastOf_101 : decode cX10_fastOf 101 = .ok (.iload_n 3, 1) := by decide +kernel
theorem dX10_fastOf_102 : decode cX10_fastOf 102 = .ok (.iconst 1, 1) := by decide +kernel
theorem dX10_fastOf_103 : decode cX10_fastOf 103 = .ok (.if_icmp .ne 8, 3) := by decide +kernel
theorem dX10_fastOf_106 : decode cX10_fastOf 106 = .ok (.iload 5, 2) := by decide +kernel
theorem dX10_fastOf_108 : decode cX10_fastOf 108 = .ok (.goto 8, 3) := by decide +kernel
theorem dX10_fastOf_111 : decode cX10_fastOf 111 = .ok (.iload 5, 2) := by decide +kernel
theorem dX10_fastOf_113 : decode cX10_fastOf 113 = .ok (.invokestatic 154, 3) := by decide +kernel
theorem dX10_fastOf_116 : decode cX10_fastOf 116 = .ok (.ireturn, 1) := by decide +kernel
theorem dX10_fast_0 : decode cX10_fast 0 = .ok (.aload_n 0, 1) := by decide +kernel
theorem dX10_fast_1 : decode cX10_fast 1 = .ok (.invokevirtual 151, 3) := by decide +kernel
theorem dX10_fast_4 : decode cX10_fast 4 = .ok (.aload_n 0, 1) := by decide +kernel
theorem dX10_fast_5 : decode cX10_fast 5 = .ok (.iload_n 1, 1) := by decide +kernel
theorem dX10_fast_6 : decode cX10_fast 6 = .ok (.invokevirtual 120, 3) := by decide +kernel
theorem dX10_fast_9 : decode cX10_fast 9 = .ok (.ifCond .eq 28, 3) := by decide +kernel
theorem dX10_fast_12 : decode cX10_fast 12 = .ok (.aload_n 0, 1) := by decide +kernel
theorem dX10_fast_13 : decode cX10_fast 13 = .ok (.iload_n 2, 1) := by decide +kernel
theorem dX10_fast_14 : decode cX10_fast 14 = .ok (.invokevirtual 123, 3) := by decide +kernel
theorem dX10_fast_17 : decode cX10_fast 17 = .ok (.ifCond .eq 20, 3) := by decide +kernel
theorem dX10_fast_20 : decode cX10_fast 20 = .ok (.iload_n 3, 1) := by decide +kernel
theorem dX10_fast_21 : decode cX10_fast 21 = .ok (.invokestatic 89, 3) := by decide +kernel
theorem dX10_fast_24 : decode cX10_fast 24 = .ok (.ifCond .eq 13, 3) := by decide +kernel
theorem dX10_fast_27 : decode cX10_fast 27 = .ok (.aload_n 0, 1) := by decide +kernel
theorem dX10_fast_28 : decode cX10_fast 28 = .ok (.iload_n 1, 1) := by decide +kernel
theorem dX10_fast_29 : decode cX10_fast 29 = .ok (.iload_n 2, 1) := by decide +kernel
theorem dX10_fast_30 : decode cX10_fast 30 = .ok (.iload_n 3, 1) := by decide +kernel
theorem dX10_fast_31 : decode cX10_fast 31 = .ok (.invokevirtual 194, 3) := by decide +kernel
theorem dX10_fast_34 : decode cX10_fast 34 = .ok (.goto 5, 3) := by decide +kernel
theorem dX10_fast_37 : decode cX10_fast 37 = .ok (.bipush (-2), 2) := by decide +kernel
theorem dX10_fast_39 : decode cX10_fast 39 = .ok (.ireturn, 1) := by decide +kernel
theorem dX10_soupOf_0 : decode cX10_soupOf 0 = .ok (.aload_n 0, 1) := by decide +kernel
theorem dX10_soupOf_1 : decode cX10_soupOf 1 = .ok (.getfield 28, 3) := by decide +kernel
theorem dX10_soupOf_4 : decode cX10_soupOf 4 = .ok (.iconst 3, 1) := by decide +kernel
theorem dX10_soupOf_5 : decode cX10_soupOf 5 = .ok (.iload_n 1, 1) := by decide +kernel
theorem dX10_soupOf_6 : decode cX10_soupOf 6 = .ok (.imul, 1) := by decide +kernel
theorem dX10_soupOf_7 : decode cX10_soupOf 7 = .ok (.iconst 1, 1) := by decide +kernel
theorem dX10_soupOf_8 : decode cX10_soupOf 8 = .ok (.iadd, 1) := by decide +kernel
theorem dX10_soupOf_9 : decode cX10_soupOf 9 = .ok (.iaload, 1) := by decide +kernel
theorem dX10_soupOf_10 : decode cX10_soupOf 10 = .ok (.istore_n 3, 1) := by decide +kernel
theorem dX10_soupOf_11 : decode cX10_soupOf 11 = .ok (.iconst (-1), 1) := by decide +kernel
theorem dX10_soupOf_12 : decode cX10_soupOf 12 = .ok (.istore 4, 2) := by decide +kernel
theorem dX10_soupOf_14 : decode cX10_soupOf 14 = .ok (.bipush 9, 2) := by decide +kernel
theorem dX10_soupOf_16 : decode cX10_soupOf 16 = .ok (.istore 5, 2) := by decide +kernel
theorem dX10_soupOf_18 : decode cX10_soupOf 18 = .ok (.iload 5, 2) := by decide +kernel
theorem dX10_soupOf_20 : decode cX10_soupOf 20 = .ok (.ifCond .le 45, 3) := by decide +kernel
theorem dX10_soupOf_23 : decode cX10_soupOf 23 = .ok (.aload_n 0, 1) := by decide +kernel
theorem dX10_soupOf_24 : decode cX10_soupOf 24 = .ok (.getfield 28, 3) := by decide +kernel
theorem dX10_soupOf_27 : decode cX10_soupOf 27 = .ok (.iconst 3, 1) := by decide +kernel
theorem dX10_soupOf_28 : decode cX10_soupOf 28 = .ok (.iload_n 1, 1) := by decide +kernel
theorem dX10_soupOf_29 : decode cX10_soupOf 29 = .ok (.imul, 1) := by decide +kernel
theorem dX10_soupOf_30 : decode cX10_soupOf 30 = .ok (.iconst 1, 1) := by decide +kernel
theorem dX10_soupOf_31 : decode cX10_soupOf 31 = .ok (.iadd, 1) := by decide +kernel
theorem dX10_soupOf_32 : decode cX10_soupOf 32 = .ok (.iload 5, 2) := by decide +kernel
theorem dX10_soupOf_34 : decode cX10_soupOf 34 = .ok (.iastore, 1) := by decide +kernel
theorem dX10_soupOf_35 : decode cX10_soupOf 35 = .ok (.aload_n 0, 1) := by decide +kernel
theorem dX10_soupOf_36 : decode cX10_soupOf 36 = .ok (.iload_n 2, 1) := by decide +kernel
theorem dX10_soupOf_37 : decode cX10_soupOf 37 = .ok (.invokevirtual 144, 3) := by decide +kernel
theorem dX10_soupOf_40 : decode cX10_soupOf 40 = .ok (.aload_n 0, 1) := by decide +kernel
theorem dX10_soupOf_41 : decode cX10_soupOf 41 = .ok (.getfield 43, 3) := by decide +kernel
theorem dX10_soupOf_44 : decode cX10_soupOf 44 = .ok (.iload_n 2, 1) := by decide +kernel
theorem dX10_soupOf_45 : decode cX10_soupOf 45 = .ok (.iaload, 1) := by decide +kernel
theorem dX10_soupOf_46 : decode cX10_soupOf 46 = .ok (.iload_n 1, 1) := by decide +kernel
theorem dX10_soupOf_47 : decode cX10_soupOf 47 = .ok (.if_icmp .ne 8, 3) := by decide +kernel
theorem dX10_soupOf_50 : decode cX10_soupOf 50 = .ok (.iload 5, 2) := by decide +kernel
theorem dX10_soupOf_52 : decode cX10_soupOf 52 = .ok (.goto 5, 3) := by decide +kernel
theorem dX10_soupOf_55 : decode cX10_soupOf 55 = .ok (.iload 4, 2) := by decide +kernel
theorem dX10_soupOf_57 : decode cX10_soupOf 57 = .ok (.istore 4, 2) := by decide +kernel
theorem dX10_soupOf_59 : decode cX10_soupOf 59 = .ok (.iinc 5 (-1), 3) := by decide +kernel
theorem dX10_soupOf_62 : decode cX10_soupOf 62 = .ok (.goto (-44), 3) := by decide +kernel
theorem dX10_soupOf_65 : decode cX10_soupOf 65 = .ok (.aload_n 0, 1) := by decide +kernel
theorem dX10_soupOf_66 : decode cX10_soupOf 66 = .ok (.getfield 28, 3) := by decide +kernel
theorem dX10_soupOf_69 : decode cX10_soupOf 69 = .ok (.iconst 3, 1) := by decide +kernel
theorem dX10_soupOf_70 : decode cX10_soupOf 70 = .ok (.iload_n 1, 1) := by decide +kernel
theorem dX10_soupOf_71 : decode cX10_soupOf 71 = .ok (.imul, 1) := by decide +kernel
theorem dX10_soupOf_72 : decode cX10_soupOf 72 = .ok (.iconst 1, 1) := by decide +kernel
theorem dX10_soupOf_73 : decode cX10_soupOf 73 = .ok (.iadd, 1) := by decide +kernel
theorem dX10_soupOf_74 : decode cX10_soupOf 74 = .ok (.iload_n 3, 1) := by decide +kernel
theorem dX10_soupOf_75 : decode cX10_soupOf 75 = .ok (.iastore, 1) := by decide +kernel
theorem dX10_soupOf_76 : decode cX10_soupOf 76 = .ok (.aload_n 0, 1) := by decide +kernel
theorem dX10_soupOf_77 : decode cX10_soupOf 77 = .ok (.iload_n 2, 1) := by decide +kernel
theorem dX10_soupOf_78 : decode cX10_soupOf 78 = .ok (.invokevirtual 144, 3) := by decide +kernel
theorem dX10_soupOf_81 : decode cX10_soupOf 81 = .ok (.iload 4, 2) := by decide +kernel
theorem dX10_soupOf_83 : decode cX10_soupOf 83 = .ok (.ireturn, 1) := by decide +kernel
theorem dX10_soup_0 : decode cX10_soup 0 = .ok (.aload_n 0, 1) := by decide +kernel
theorem dX10_soup_1 : decode cX10_soup 1 = .ok (.invokevirtual 151, 3) := by decide +kernel
theorem dX10_soup_4 : decode cX10_soup 4 = .ok (.aload_n 0, 1) := by decide +kernel
theorem dX10_soup_5 : decode cX10_soup 5 = .ok (.iload_n 1, 1) := by decide +kernel
theorem dX10_soup_6 : decode cX10_soup 6 = .ok (.invokevirtual 120, 3) := by decide +kernel
theorem dX10_soup_9 : decode cX10_soup 9 = .ok (.ifCond .eq 20, 3) := by decide +kernel
theorem dX10_soup_12 : decode cX10_soup 12 = .ok (.aload_n 0, 1) := by decide +kernel
theorem dX10_soup_13 : decode cX10_soup 13 = .ok (.iload_n 2, 1) := by decide +kernel
theorem dX10_soup_14 : decode cX10_soup 14 = .ok (.invokevirtual 123, 3) := by decide +kernel
theorem dX10_soup_17 : decode cX10_soup 17 = .ok (.ifCond .eq 12, 3) := by decide +kernel
theorem dX10_soup_20 : decode cX10_soup 20 = .ok (.aload_n 0, 1) := by decide +kernel
theorem dX10_soup_21 : decode cX10_soup 21 = .ok (.iload_n 1, 1) := by decide +kernel
theorem dX10_soup_22 : decode cX10_soup 22 = .ok (.iload_n 2, 1) := by decide +kernel
theorem dX10_soup_23 : decode cX10_soup 23 = .ok (.invokevirtual 197, 3) := by decide +kernel
theorem dX10_soup_26 : decode cX10_soup 26 = .ok (.goto 5, 3) := by decide +kernel
theorem dX10_soup_29 : decode cX10_soup 29 = .ok (.bipush (-2), 2) := by decide +kernel
theorem dX10_soup_31 : decode cX10_soup 31 = .ok (.ireturn, 1) := by decide +kernel
theorem dX10_seen_0 : decode cX10_seen 0 = .ok (.iload_n 1, 1) := by decide +kernel
theorem dX10_seen_1 : decode cX10_seen 1 = .ok (.i2l, 1) := by decide +kernel
theorem dX10_seen_2 : decode cX10_seen 2 = .ok (.lconst 0, 1) := by decide +kernel
theorem dX10_seen_3 : decode cX10_seen 3 = .ok (.ldc2_w 132, 3) := by decide +kernel
theorem dX10_seen_6 : decode cX10_seen 6 = .ok (.invokestatic 60, 3) := by decide +kernel
theorem dX10_seen_9 : decode cX10_seen 9 = .ok (.ifCond .eq 15, 3) := by decide +kernel
theorem dX10_seen_12 : decode cX10_seen 12 = .ok (.iload_n 2, 1) := by decide +kernel
theorem dX10_seen_13 : decode cX10_seen 13 = .ok (.i2l, 1) := by decide +kernel
theorem dX10_seen_14 : decode cX10_seen 14 = .ok (.lconst 0, 1) := by decide +kernel
theorem dX10_seen_15 : decode cX10_seen 15 = .ok (.ldc2_w 200, 3) := by decide +kernel
theorem dX10_seen_18 : decode cX10_seen 18 = .ok (.invokestatic 60, 3) := by decide +kernel
theorem dX10_seen_21 : decode cX10_seen 21 = .ok (.ifCond .ne 6, 3) := by decide +kernel
theorem dX10_seen_24 : decode cX10_seen 24 = .ok (.bipush (-2), 2) := by decide +kernel
theorem dX10_seen_26 : decode cX10_seen 26 = .ok (.ireturn, 1) := by decide +kernel
theorem dX10_seen_27 : decode cX10_seen 27 = .ok (.aload_n 0, 1) := by decide +kernel
theorem dX10_seen_28 : decode cX10_seen 28 = .ok (.getfield 202, 3) := by decide +kernel
theorem dX10_seen_31 : decode cX10_seen 31 = .ok (.bipush 8, 2) := by decide +kernel
theorem dX10_seen_33 : decode cX10_seen 33 = .ok (.if_icmp .ne 6, 3) := by decide +kernel
theorem dX10_seen_36 : decode cX10_seen 36 = .ok (.bipush (-4), 2) := by decide +kernel
theorem dX10_seen_38 : decode cX10_seen 38 = .ok (.ireturn, 1) := by decide +kernel
theorem dX10_seen_39 : decode cX10_seen 39 = .ok (.aload_n 0, 1) := by decide +kernel
theorem dX10_seen_40 : decode cX10_seen 40 = .ok (.getfield 55, 3) := by decide +kernel
theorem dX10_seen_43 : decode cX10_seen 43 = .ok (.iconst 2, 1) := by decide +kernel
theorem dX10_seen_44 : decode cX10_seen 44 = .ok (.aload_n 0, 1) := by decide +kernel
theorem dX10_seen_45 : decode cX10_seen 45 = .ok (.getfield 202, 3) := by decide +kernel
theorem dX10_seen_48 : decode cX10_seen 48 = .ok (.imul, 1) := by decide +kernel
theorem dX10_seen_49 : decode cX10_seen 49 = .ok (.iload_n 1, 1) := by decide +kernel
theorem dX10_seen_50 : decode cX10_seen 50 = .ok (.iastore, 1) := by decide +kernel
theorem dX10_seen_51 : decode cX10_seen 51 = .ok (.aload_n 0, 1) := by decide +kernel
theorem dX10_seen_52 : decode cX10_seen 52 = .ok (.getfield 55, 3) := by decide +kernel
theorem dX10_seen_55 : decode cX10_seen 55 = .ok (.iconst 2, 1) := by decide +kernel
theorem dX10_seen_56 : decode cX10_seen 56 = .ok (.aload_n 0, 1) := by decide +kernel
theorem dX10_seen_57 : decode cX10_seen 57 = .ok (.getfield 202, 3) := by decide +kernel
theorem dX10_seen_60 : decode cX10_seen 60 = .ok (.imul, 1) := by decide +kernel
theorem dX10_seen_61 : decode cX10_seen 61 = .ok (.iconst 1, 1) := by decide +kernel
theorem dX10_seen_62 : decode cX10_seen 62 = .ok (.iadd, 1) := by decide +kernel
theorem dX10_seen_63 : decode cX10_seen 63 = .ok (.iload_n 2, 1) := by decide +kernel
theorem dX10_seen_64 : decode cX10_seen 64 = .ok (.iastore, 1) := by decide +kernel
theorem dX10_seen_65 : decode cX10_seen 65 = .ok (.aload_n 0, 1) := by decide +kernel
theorem dX10_seen_66 : decode cX10_seen 66 = .ok (.dup, 1) := by decide +kernel
theorem dX10_seen_67 : decode cX10_seen 67 = .ok (.getfield 202, 3) := by decide +kernel
theorem dX10_seen_70 : decode cX10_seen 70 = .ok (.iconst 1, 1) := by decide +kernel
theorem dX10_seen_71 : decode cX10_seen 71 = .ok (.iadd, 1) := by decide +kernel
theorem dX10_seen_72 : decode cX10_seen 72 = .ok (.putfield 202, 3) := by decide +kernel
theorem dX10_seen_75 : decode cX10_seen 75 = .ok (.aload_n 0, 1) := by decide +kernel
theorem dX10_seen_76 : decode cX10_seen 76 = .ok (.getfield 202, 3) := by decide +kernel
theorem dX10_seen_79 : decode cX10_seen 79 = .ok (.ireturn, 1) := by decide +kernel
theorem dX10_forget_0 : decode cX10_forget 0 = .ok (.aload_n 0, 1) := by decide +kernel
theorem dX10_forget_1 : decode cX10_forget 1 = .ok (.getfield 202, 3) := by decide +kernel
theorem dX10_forget_4 : decode cX10_forget 4 = .ok (.istore_n 1, 1) := by decide +kernel
theorem dX10_forget_5 : decode cX10_forget 5 = .ok (.aload_n 0, 1) := by decide +kernel
theorem dX10_forget_6 : decode cX10_forget 6 = .ok (.iconst 0, 1) := by decide +kernel
theorem dX10_forget_7 : decode cX10_forget 7 = .ok (.putfield 202, 3) := by decide +kernel
theorem dX10_forget_10 : decode cX10_forget 10 = .ok (.iload_n 1, 1) := by decide +kernel
theorem dX10_forget_11 : decode cX10_forget 11 = .ok (.ireturn, 1) := by decide +kernel
theorem dX10_read_0 : decode cX10_read 0 = .ok (.iload_n 1, 1) := by decide +kernel
theorem dX10_read_1 : decode cX10_read 1 = .ok (.invokestatic 70, 3) := by decide +kernel
theorem dX10_read_4 : decode cX10_read 4 = .ok (.ifCond .ne 6, 3) := by decide +kernel
theorem dX10_read_7 : decode cX10_read 7 = .ok (.bipush (-2), 2) := by decide +kernel
theorem dX10_read_9 : decode cX10_read 9 = .ok (.ireturn, 1) := by decide +kernel
theorem dX10_read_10 : decode cX10_read 10 = .ok (.aload_n 0, 1) := by decide +kernel
theorem dX10_read_11 : decode cX10_read 11 = .ok (.getfield 7, 3) := by decide +kernel
theorem dX10_read_14 : decode cX10_read 14 = .ok (.iload_n 1, 1) := by decide +kernel
theorem dX10_read_15 : decode cX10_read 15 = .ok (.iaload, 1) := by decide +kernel
theorem dX10_read_16 : decode cX10_read 16 = .ok (.ifCond .ge 9, 3) := by decide +kernel
theorem dX10_read_19 : decode cX10_read 19 = .ok (.aload_n 0, 1) := by decide +kernel
theorem dX10_read_20 : decode cX10_read 20 = .ok (.iconst 1, 1) := by decide +kernel
theorem dX10_read_21 : decode cX10_read 21 = .ok (.invokevirtual 76, 3) := by decide +kernel
theorem dX10_read_24 : decode cX10_read 24 = .ok (.ireturn, 1) := by decide +kernel
theorem dX10_read_25 : decode cX10_read 25 = .ok (.iconst 0, 1) := by decide +kernel
theorem dX10_read_26 : decode cX10_read 26 = .ok (.istore_n 2, 1) := by decide +kernel
theorem dX10_read_27 : decode cX10_read 27 = .ok (.iconst 1, 1) := by decide +kernel
theorem dX10_read_28 : decode cX10_read 28 = .ok (.istore_n 3, 1) := by decide +kernel
theorem dX10_read_29 : decode cX10_read 29 = .ok (.iload_n 3, 1) := by decide +kernel
theorem dX10_read_30 : decode cX10_read 30 = .ok (.ifCond .eq 73, 3) := by decide +kernel
theorem dX10_read_33 : decode cX10_read 33 = .ok (.iconst 2, 1) := by decide +kernel
theorem dX10_read_34 : decode cX10_read 34 = .ok (.iload_n 2, 1) := by decide +kernel
theorem dX10_read_35 : decode cX10_read 35 = .ok (.imul, 1) := by decide +kernel
theorem dX10_read_36 : decode cX10_read 36 = .ok (.iconst 2, 1) := by decide +kernel
theorem dX10_read_37 : decode cX10_read 37 = .ok (.iadd, 1) := by decide +kernel
theorem dX10_read_38 : decode cX10_read 38 = .ok (.aload_n 0, 1) := by decide +kernel
theorem dX10_read_39 : decode cX10_read 39 = .ok (.getfield 13, 3) := by decide +kernel
theorem dX10_read_42 : decode cX10_read 42 = .ok (.iload_n 1, 1) := by decide +kernel
theorem dX10_read_43 : decode cX10_read 43 = .ok (.iaload, 1) := by decide +kernel
theorem dX10_read_44 : decode cX10_read 44 = .ok (.if_icmp .gt 59, 3) := by decide +kernel
theorem dX10_read_47 : decode cX10_read 47 = .ok (.aload_n 0, 1) := by decide +kernel
theorem dX10_read_48 : decode cX10_read 48 = .ok (.aload_n 0, 1) := by decide +kernel
theorem dX10_read_49 : decode cX10_read 49 = .ok (.getfield 16, 3) := by decide +kernel
theorem dX10_read_52 : decode cX10_read 52 = .ok (.bipush 60, 2) := by decide +kernel
theorem dX10_read_54 : decode cX10_read 54 = .ok (.iload_n 1, 1) := by decide +kernel
theorem dX10_read_55 : decode cX10_read 55 = .ok (.imul, 1) := by decide +kernel
theorem dX10_read_56 : decode cX10_read 56 = .ok (.iconst 2, 1) := by decide +kernel
theorem dX10_read_57 : decode cX10_read 57 = .ok (.iload_n 2, 1) := by decide +kernel
theorem dX10_read_58 : decode cX10_read 58 = .ok (.imul, 1) := by decide +kernel
theorem dX10_read_59 : decode cX10_read 59 = .ok (.iadd, 1) := by decide +kernel
theorem dX10_read_60 : decode cX10_read 60 = .ok (.iaload, 1) := by decide +kernel
theorem dX10_read_61 : decode cX10_read 61 = .ok (.aload_n 0, 1) := by decide +kernel
theorem dX10_read_62 : decode cX10_read 62 = .ok (.getfield 16, 3) := by decide +kernel
theorem dX10_read_65 : decode cX10_read 65 = .ok (.bipush 60, 2) := by decide +kernel
theorem dX10_read_67 : decode cX10_read 67 = .ok (.iload_n 1, 1) := by decide +kernel
theorem dX10_read_68 : decode cX10_read 68 = .ok (.imul, 1) := by decide +kernel
theorem dX10_read_69 : decode cX10_read 69 = .ok (.iconst 2, 1) := by decide +kernel
theorem dX10_read_70 : decode cX10_read 70 = .ok (.iload_n 2, 1) := by decide +kernel
theorem dX10_read_71 : decode cX10_read 71 = .ok (.imul, 1) := by decide +kernel
theorem dX10_read_72 : decode cX10_read 72 = .ok (.iadd, 1) := by decide +kernel
theorem dX10_read_73 : decode cX10_read 73 = .ok (.iconst 1, 1) := by decide +kernel
theorem dX10_read_74 : decode cX10_read 74 = .ok (.iadd, 1) := by decide +kernel
theorem dX10_read_75 : decode cX10_read 75 = .ok (.iaload, 1) := by decide +kernel
theorem dX10_read_76 : decode cX10_read 76 = .ok (.invokevirtual 205, 3) := by decide +kernel
theorem dX10_read_79 : decode cX10_read 79 = .ok (.ifCond .lt 7, 3) := by decide +kernel
theorem dX10_read_82 : decode cX10_read 82 = .ok (.iconst 1, 1) := by decide +kernel
theorem dX10_read_83 : decode cX10_read 83 = .ok (.goto 4, 3) := by decide +kernel
theorem dX10_read_86 : decode cX10_read 86 = .ok (.iconst 0, 1) := by decide +kernel
theorem dX10_read_87 : decode cX10_read 87 = .ok (.istore_n 3, 1) := by decide +kernel
theorem dX10_read_88 : decode cX10_read 88 = .ok (.iload_n 2, 1) := by decide +kernel
theorem dX10_read_89 : decode cX10_read 89 = .ok (.iload_n 3, 1) := by decide +kernel
theorem dX10_read_90 : decode cX10_read 90 = .ok (.ifCond .eq 7, 3) := by decide +kernel
theorem dX10_read_93 : decode cX10_read 93 = .ok (.iconst 1, 1) := by decide +kernel
theorem dX10_read_94 : decode cX10_read 94 = .ok (.goto 4, 3) := by decide +kernel
theorem dX10_read_97 : decode cX10_read 97 = .ok (.iconst 0, 1) := by decide +kernel
theorem dX10_read_98 : decode cX10_read 98 = .ok (.iadd, 1) := by decide +kernel
theorem dX10_read_99 : decode cX10_read 99 = .ok (.istore_n 2, 1) := by decide +kernel
theorem dX10_read_100 : decode cX10_read 100 = .ok (.goto (-71), 3) := by decide +kernel
theorem dX10_read_103 : decode cX10_read 103 = .ok (.iload_n 2, 1) := by decide +kernel
theorem dX10_read_104 : decode cX10_read 104 = .ok (.ireturn, 1) := by decide +kernel
theorem dX10_givesBy_0 : decode cX10_givesBy 0 = .ok (.aload_n 0, 1) := by decide +kernel
theorem dX10_givesBy_1 : decode cX10_givesBy 1 = .ok (.iload_n 1, 1) := by decide +kernel
theorem dX10_givesBy_2 : decode cX10_givesBy 2 = .ok (.iconst 0, 1) := by decide +kernel
theorem dX10_givesBy_3 : decode cX10_givesBy 3 = .ok (.invokevirtual 160, 3) := by decide +kernel
theorem dX10_givesBy_6 : decode cX10_givesBy 6 = .ok (.iload_n 2, 1) := by decide +kernel
theorem dX10_givesBy_7 : decode cX10_givesBy 7 = .ok (.iconst (-1), 1) := by decide +kernel
theorem dX10_givesBy_8 : decode cX10_givesBy 8 = .ok (.if_icmp .ne 7, 3) := by decide +kernel
theorem dX10_givesBy_11 : decode cX10_givesBy 11 = .ok (.iconst 0, 1) := by decide +kernel
theorem dX10_givesBy_12 : decode cX10_givesBy 12 = .ok (.goto 14, 3) := by decide +kernel
theorem dX10_givesBy_15 : decode cX10_givesBy 15 = .ok (.aload_n 0, 1) := by decide +kernel
theorem dX10_givesBy_16 : decode cX10_givesBy 16 = .ok (.getfield 40, 3) := by decide +kernel
theorem dX10_givesBy_19 : decode cX10_givesBy 19 = .ok (.bipush 8, 2) := by decide +kernel
theorem dX10_givesBy_21 : decode cX10_givesBy 21 = .ok (.iload_n 2, 1) := by decide +kernel
theorem dX10_givesBy_22 : decode cX10_givesBy 22 = .ok (.imul, 1) := by decide +kernel
theorem dX10_givesBy_23 : decode cX10_givesBy 23 = .ok (.iload_n 1, 1) := by decide +kernel
theorem dX10_givesBy_24 : decode cX10_givesBy 24 = .ok (.iadd, 1) := by decide +kernel
theorem dX10_givesBy_25 : decode cX10_givesBy 25 = .ok (.iaload, 1) := by decide +kernel
theorem dX10_givesBy_26 : decode cX10_givesBy 26 = .ok (.iadd, 1) := by decide +kernel
theorem dX10_givesBy_27 : decode cX10_givesBy 27 = .ok (.ireturn, 1) := by decide +kernel
theorem dX10_isSeen_0 : decode cX10_isSeen 0 = .ok (.iconst 1, 1) := by decide +kernel
theorem dX10_isSeen_1 : decode cX10_isSeen 1 = .ok (.istore_n 2, 1) := by decide +kernel
theorem dX10_isSeen_2 : decode cX10_isSeen 2 = .ok (.iconst 0, 1) := by decide +kernel
theorem dX10_isSeen_3 : decode cX10_isSeen 3 = .ok (.istore_n 3, 1) := by decide +kernel
theorem dX10_isSeen_4 : decode cX10_isSeen 4 = .ok (.iload_n 3, 1) := by decide +kernel
theorem dX10_isSeen_5 : decode cX10_isSeen 5 = .ok (.aload_n 0, 1) := by decide +kernel
theorem dX10_isSeen_6 : decode cX10_isSeen 6 = .ok (.getfield 202, 3) := by decide +kernel
theorem dX10_isSeen_9 : decode cX10_isSeen 9 = .ok (.if_icmp .ge 60, 3) := by decide +kernel
theorem dX10_isSeen_12 : decode cX10_isSeen 12 = .ok (.iload_n 2, 1) := by decide +kernel
theorem dX10_isSeen_13 : decode cX10_isSeen 13 = .ok (.ifCond .eq 56, 3) := by decide +kernel
theorem dX10_isSeen_16 : decode cX10_isSeen 16 = .ok (.aload_n 0, 1) := by decide +kernel
theorem dX10_isSeen_17 : decode cX10_isSeen 17 = .ok (.aload_n 0, 1) := by decide +kernel
theorem dX10_isSeen_18 : decode cX10_isSeen 18 = .ok (.getfield 55, 3) := by decide +kernel
theorem dX10_isSeen_21 : decode cX10_isSeen 21 = .ok (.iconst 2, 1) := by decide +kernel
theorem dX10_isSeen_22 : decode cX10_isSeen 22 = .ok (.iload_n 3, 1) := by decide +kernel
theorem dX10_isSeen_23 : decode cX10_isSeen 23 = .ok (.imul, 1) := by decide +kernel
theorem dX10_isSeen_24 : decode cX10_isSeen 24 = .ok (.iaload, 1) := by decide +kernel
theorem dX10_isSeen_25 : decode cX10_isSeen 25 = .ok (.invokevirtual 120, 3) := by decide +kernel
theorem dX10_isSeen_28 : decode cX10_isSeen 28 = .ok (.ifCond .eq 33, 3) := by decide +kernel
theorem dX10_isSeen_31 : decode cX10_isSeen 31 = .ok (.aload_n 0, 1) := by decide +kernel
theorem dX10_isSeen_32 : decode cX10_isSeen 32 = .ok (.aload_n 0, 1) := by decide +kernel
theorem dX10_isSeen_33 : decode cX10_isSeen 33 = .ok (.getfield 55, 3) := by decide +kernel
theorem dX10_isSeen_36 : decode cX10_isSeen 36 = .ok (.iconst 2, 1) := by decide +kernel
theorem dX10_isSeen_37 : decode cX10_isSeen 37 = .ok (.iload_n 3, 1) := by decide +kernel
theorem dX10_isSeen_38 : decode cX10_isSeen 38 = .ok (.imul, 1) := by decide +kernel
theorem dX10_isSeen_39 : decode cX10_isSeen 39 = .ok (.iaload, 1) := by decide +kernel
theorem dX10_isSeen_40 : decode cX10_isSeen 40 = .ok (.iload_n 1, 1) := by decide +kernel
theorem dX10_isSeen_41 : decode cX10_isSeen 41 = .ok (.invokevirtual 208, 3) := by decide +kernel
theorem dX10_isSeen_44 : decode cX10_isSeen 44 = .ok (.aload_n 0, 1) := by decide +kernel
theorem dX10_isSeen_45 : decode cX10_isSeen 45 = .ok (.getfield 55, 3) := by decide +kernel
theorem dX10_isSeen_48 : decode cX10_isSeen 48 = .ok (.iconst 2, 1) := by decide +kernel
theorem dX10_isSeen_49 : decode cX10_isSeen 49 = .ok (.iload_n 3, 1) := by decide +kernel
theorem dX10_isSeen_50 : decode cX10_isSeen 50 = .ok (.imul, 1) := by decide +kernel
theorem dX10_isSeen_51 : decode cX10_isSeen 51 = .ok (.iconst 1, 1) := by decide +kernel
theorem dX10_isSeen_52 : decode cX10_isSeen 52 = .ok (.iadd, 1) := by decide +kernel
theorem dX10_isSeen_53 : decode cX10_isSeen 53 = .ok (.iaload, 1) := by decide +kernel
theorem dX10_isSeen_54 : decode cX10_isSeen 54 = .ok (.if_icmp .ne 7, 3) := by decide +kernel
theorem dX10_isSeen_57 : decode cX10_isSeen 57 = .ok (.iconst 1, 1) := by decide +kernel
theorem dX10_isSeen_58 : decode cX10_isSeen 58 = .ok (.goto 4, 3) := by decide +kernel
theorem dX10_isSeen_61 : decode cX10_isSeen 61 = .ok (.iconst 0, 1) := by decide +kernel
theorem dX10_isSeen_62 : decode cX10_isSeen 62 = .ok (.istore_n 2, 1) := by decide +kernel
theorem dX10_isSeen_63 : decode cX10_isSeen 63 = .ok (.iinc 3 1, 3) := by decide +kernel
theorem dX10_isSeen_66 : decode cX10_isSeen 66 = .ok (.goto (-62), 3) := by decide +kernel
theorem dX10_isSeen_69 : decode cX10_isSeen 69 = .ok (.iload_n 2, 1) := by decide +kernel
theorem dX10_isSeen_70 : decode cX10_isSeen 70 = .ok (.ireturn, 1) := by decide +kernel
theorem dX10_twiceNow_0 : decode cX10_twiceNow 0 = .ok (.iconst 0, 1) := by decide +kernel
theorem dX10_twiceNow_1 : decode cX10_twiceNow 1 = .ok (.istore_n 1, 1) := by decide +kernel
theorem dX10_twiceNow_2 : decode cX10_twiceNow 2 = .ok (.iconst 0, 1) := by decide +kernel
theorem dX10_twiceNow_3 : decode cX10_twiceNow 3 = .ok (.istore_n 2, 1) := by decide +kernel
theorem dX10_twiceNow_4 : decode cX10_twiceNow 4 = .ok (.iload_n 2, 1) := by decide +kernel
theorem dX10_twiceNow_5 : decode cX10_twiceNow 5 = .ok (.aload_n 0, 1) := by decide +kernel
theorem dX10_twiceNow_6 : decode cX10_twiceNow 6 = .ok (.getfield 103, 3) := by decide +kernel
theorem dX10_twiceNow_9 : decode cX10_twiceNow 9 = .ok (.if_icmp .ge 27, 3) := by decide +kernel
theorem dX10_twiceNow_12 : decode cX10_twiceNow 12 = .ok (.iload_n 1, 1) := by decide +kernel
theorem dX10_twiceNow_13 : decode cX10_twiceNow 13 = .ok (.aload_n 0, 1) := by decide +kernel
theorem dX10_twiceNow_14 : decode cX10_twiceNow 14 = .ok (.iload_n 2, 1) := by decide +kernel
theorem dX10_twiceNow_15 : decode cX10_twiceNow 15 = .ok (.invokevirtual 211, 3) := by decide +kernel
theorem dX10_twiceNow_18 : decode cX10_twiceNow 18 = .ok (.ifCond .eq 9, 3) := by decide +kernel
theorem dX10_twiceNow_21 : decode cX10_twiceNow 21 = .ok (.iconst 1, 1) := by decide +kernel
theorem dX10_twiceNow_22 : decode cX10_twiceNow 22 = .ok (.iload_n 2, 1) := by decide +kernel
theorem dX10_twiceNow_23 : decode cX10_twiceNow 23 = .ok (.ishl, 1) := by decide +kernel
theorem dX10_twiceNow_24 : decode cX10_twiceNow 24 = .ok (.goto 4, 3) := by decide +kernel
theorem dX10_twiceNow_27 : decode cX10_twiceNow 27 = .ok (.iconst 0, 1) := by decide +kernel
theorem dX10_twiceNow_28 : decode cX10_twiceNow 28 = .ok (.ior, 1) := by decide +kernel
theorem dX10_twiceNow_29 : decode cX10_twiceNow 29 = .ok (.istore_n 1, 1) := by decide +kernel
theorem dX10_twiceNow_30 : decode cX10_twiceNow 30 = .ok (.iinc 2 1, 3) := by decide +kernel
theorem dX10_twiceNow_33 : decode cX10_twiceNow 33 = .ok (.goto (-29), 3) := by decide +kernel
theorem dX10_twiceNow_36 : decode cX10_twiceNow 36 = .ok (.iload_n 1, 1) := by decide +kernel
theorem dX10_twiceNow_37 : decode cX10_twiceNow 37 = .ok (.ireturn, 1) := by decide +kernel
theorem dX10_twice_0 : decode cX10_twice 0 = .ok (.aload_n 0, 1) := by decide +kernel
theorem dX10_twice_1 : decode cX10_twice 1 = .ok (.invokevirtual 151, 3) := by decide +kernel
theorem dX10_twice_4 : decode cX10_twice 4 = .ok (.aload_n 0, 1) := by decide +kernel
theorem dX10_twice_5 : decode cX10_twice 5 = .ok (.invokevirtual 214, 3) := by decide +kernel
theorem dX10_twice_8 : decode cX10_twice 8 = .ok (.ireturn, 1) := by decide +kernel
theorem dX10_beganOf_0 : decode cX10_beganOf 0 = .ok (.aload_n 0, 1) := by decide +kernel
theorem dX10_beganOf_1 : decode cX10_beganOf 1 = .ok (.getfield 31, 3) := by decide +kernel
theorem dX10_beganOf_4 : decode cX10_beganOf 4 = .ok (.iconst 4, 1) := by decide +kernel
theorem dX10_beganOf_5 : decode cX10_beganOf 5 = .ok (.iload_n 1, 1) := by decide +kernel
theorem dX10_beganOf_6 : decode cX10_beganOf 6 = .ok (.imul, 1) := by decide +kernel
theorem dX10_beganOf_7 : decode cX10_beganOf 7 = .ok (.iconst 1, 1) := by decide +kernel
theorem dX10_beganOf_8 : decode cX10_beganOf 8 = .ok (.iadd, 1) := by decide +kernel
theorem dX10_beganOf_9 : decode cX10_beganOf 9 = .ok (.iaload, 1) := by decide +kernel
theorem dX10_beganOf_10 : decode cX10_beganOf 10 = .ok (.istore_n 2, 1) := by decide +kernel
theorem dX10_beganOf_11 : decode cX10_beganOf 11 = .ok (.aload_n 0, 1) := by decide +kernel
theorem dX10_beganOf_12 : decode cX10_beganOf 12 = .ok (.getfield 31, 3) := by decide +kernel
theorem dX10_beganOf_15 : decode cX10_beganOf 15 = .ok (.iconst 4, 1) := by decide +kernel
theorem dX10_beganOf_16 : decode cX10_beganOf 16 = .ok (.iload_n 1, 1) := by decide +kernel
theorem dX10_beganOf_17 : decode cX10_beganOf 17 = .ok (.imul, 1) := by decide +kernel
theorem dX10_beganOf_18 : decode cX10_beganOf 18 = .ok (.iconst 2, 1) := by decide +kernel
theorem dX10_beganOf_19 : decode cX10_beganOf 19 = .ok (.iadd, 1) := by decide +kernel
theorem dX10_beganOf_20 : decode cX10_beganOf 20 = .ok (.iaload, 1) := by decide +kernel
theorem dX10_beganOf_21 : decode cX10_beganOf 21 = .ok (.istore_n 3, 1) := by decide +kernel
theorem dX10_beganOf_22 : decode cX10_beganOf 22 = .ok (.iconst 0, 1) := by decide +kernel
theorem dX10_beganOf_23 : decode cX10_beganOf 23 = .ok (.istore 4, 2) := by decide +kernel
theorem dX10_beganOf_25 : decode cX10_beganOf 25 = .ok (.iconst 0, 1) := by decide +kernel
theorem dX10_beganOf_26 : decode cX10_beganOf 26 = .ok (.istore 5, 2) := by decide +kernel
theorem dX10_beganOf_28 : decode cX10_beganOf 28 = .ok (.iload 5, 2) := by decide +kernel
theorem dX10_beganOf_30 : decode cX10_beganOf 30 = .ok (.bipush 16, 2) := by decide +kernel
theorem dX10_beganOf_32 : decode cX10_beganOf 32 = .ok (.if_icmp .ge 63, 3) := by decide +kernel
theorem dX10_beganOf_35 : decode cX10_beganOf 35 = .ok (.aload_n 0, 1) := by decide +kernel
theorem dX10_beganOf_36 : decode cX10_beganOf 36 = .ok (.getfield 31, 3) := by decide +kernel
theorem dX10_beganOf_39 : decode cX10_beganOf 39 = .ok (.iconst 4, 1) := by decide +kernel
theorem dX10_beganOf_40 : decode cX10_beganOf 40 = .ok (.iload_n 1, 1) := by decide +kernel
theorem dX10_beganOf_41 : decode cX10_beganOf 41 = .ok (.imul, 1) := by decide +kernel
theorem dX10_beganOf_42 : decode cX10_beganOf 42 = .ok (.iconst 1, 1) := by decide +kernel
theorem dX10_beganOf_43 : decode cX10_beganOf 43 = .ok (.iadd, 1) := by decide +kernel
theorem dX10_beganOf_44 : decode cX10_beganOf 44 = .ok (.iload 5, 2) := by decide +kernel
theorem dX10_beganOf_46 : decode cX10_beganOf 46 = .ok (.iconst 2, 1) := by decide +kernel
theorem dX10_beganOf_47 : decode cX10_beganOf 47 = .ok (.idiv, 1) := by decide +kernel
theorem dX10_beganOf_48 : decode cX10_beganOf 48 = .ok (.iastore, 1) := by decide +kernel
theorem dX10_beganOf_49 : decode cX10_beganOf 49 = .ok (.aload_n 0, 1) := by decide +kernel
theorem dX10_beganOf_50 : decode cX10_beganOf 50 = .ok (.getfield 31, 3) := by decide +kernel
theorem dX10_beganOf_53 : decode cX10_beganOf 53 = .ok (.iconst 4, 1) := by decide +kernel
theorem dX10_beganOf_54 : decode cX10_beganOf 54 = .ok (.iload_n 1, 1) := by decide +kernel
theorem dX10_beganOf_55 : decode cX10_beganOf 55 = .ok (.imul, 1) := by decide +kernel
theorem dX10_beganOf_56 : decode cX10_beganOf 56 = .ok (.iconst 2, 1) := by decide +kernel
theorem dX10_beganOf_57 : decode cX10_beganOf 57 = .ok (.iadd, 1) := by decide +kernel
theorem dX10_beganOf_58 : decode cX10_beganOf 58 = .ok (.iload 5, 2) := by decide +kernel
theorem dX10_beganOf_60 : decode cX10_beganOf 60 = .ok (.iconst 2, 1) := by decide +kernel
theorem dX10_beganOf_61 : decode cX10_beganOf 61 = .ok (.irem, 1) := by decide +kernel
theorem dX10_beganOf_62 : decode cX10_beganOf 62 = .ok (.iastore, 1) := by decide +kernel
theorem dX10_beganOf_63 : decode cX10_beganOf 63 = .ok (.aload_n 0, 1) := by decide +kernel
theorem dX10_beganOf_64 : decode cX10_beganOf 64 = .ok (.iload_n 1, 1) := by decide +kernel
theorem dX10_beganOf_65 : decode cX10_beganOf 65 = .ok (.invokevirtual 144, 3) := by decide +kernel
theorem dX10_beganOf_68 : decode cX10_beganOf 68 = .ok (.iload 4, 2) := by decide +kernel
theorem dX10_beganOf_70 : decode cX10_beganOf 70 = .ok (.aload_n 0, 1) := by decide +kernel
theorem dX10_beganOf_71 : decode cX10_beganOf 71 = .ok (.iconst (-1), 1) := by decide +kernel
theorem dX10_beganOf_72 : decode cX10_beganOf 72 = .ok (.invokevirtual 211, 3) := by decide +kernel
theorem dX10_beganOf_75 : decode cX10_beganOf 75 = .ok (.ifCond .eq 10, 3) := by decide +kernel
theorem dX10_beganOf_78 : decode cX10_beganOf 78 = .ok (.iconst 1, 1) := by decide +kernel
theorem dX10_beganOf_79 : decode cX10_beganOf 79 = .ok (.iload 5, 2) := by decide +kernel
theorem dX10_beganOf_81 : decode cX10_beganOf 81 = .ok (.ishl, 1) := by decide +kernel
theorem dX10_beganOf_82 : decode cX10_beganOf 82 = .ok (.goto 4, 3) := by decide +kernel
theorem dX10_beganOf_85 : decode cX10_beganOf 85 = .ok (.iconst 0, 1) := by decide +kernel
theorem dX10_beganOf_86 : decode cX10_beganOf 86 = .ok (.ior, 1) := by decide +kernel
theorem dX10_beganOf_87 : decode cX10_beganOf 87 = .ok (.istore 4, 2) := by decide +kernel
theorem dX10_beganOf_89 : decode cX10_beganOf 89 = .ok (.iinc 5 1, 3) := by decide +kernel
theorem dX10_beganOf_92 : decode cX10_beganOf 92 = .ok (.goto (-64), 3) := by decide +kernel
theorem dX10_beganOf_95 : decode cX10_beganOf 95 = .ok (.aload_n 0, 1) := by decide +kernel
theorem dX10_beganOf_96 : decode cX10_beganOf 96 = .ok (.getfield 31, 3) := by decide +kernel
theorem dX10_beganOf_99 : decode cX10_beganOf 99 = .ok (.iconst 4, 1) := by decide +kernel
theorem dX10_beganOf_100 : decode cX10_beganOf 100 = .ok (.iload_n 1, 1) := by decide +kernel
theorem dX10_beganOf_101 : decode cX10_beganOf 101 = .ok (.imul, 1) := by decide +kernel
theorem dX10_beganOf_102 : decode cX10_beganOf 102 = .ok (.iconst 1, 1) := by decide +kernel
theorem dX10_beganOf_103 : decode cX10_beganOf 103 = .ok (.iadd, 1) := by decide +kernel
theorem dX10_beganOf_104 : decode cX10_beganOf 104 = .ok (.iload_n 2, 1) := by decide +kernel
theorem dX10_beganOf_105 : decode cX10_beganOf 105 = .ok (.iastore, 1) := by decide +kernel
theorem dX10_beganOf_106 : decode cX10_beganOf 106 = .ok (.aload_n 0, 1) := by decide +kernel
theorem dX10_beganOf_107 : decode cX10_beganOf 107 = .ok (.getfield 31, 3) := by decide +kernel
theorem dX10_beganOf_110 : decode cX10_beganOf 110 = .ok (.iconst 4, 1) := by decide +kernel
theorem dX10_beganOf_111 : decode cX10_beganOf 111 = .ok (.iload_n 1, 1) := by decide +kernel
theorem dX10_beganOf_112 : decode cX10_beganOf 112 = .ok (.imul, 1) := by decide +kernel
theorem dX10_beganOf_113 : decode cX10_beganOf 113 = .ok (.iconst 2, 1) := by decide +kernel
theorem dX10_beganOf_114 : decode cX10_beganOf 114 = .ok (.iadd, 1) := by decide +kernel
theorem dX10_beganOf_115 : decode cX10_beganOf 115 = .ok (.iload_n 3, 1) := by decide +kernel
theorem dX10_beganOf_116 : decode cX10_beganOf 116 = .ok (.iastore, 1) := by decide +kernel
theorem dX10_beganOf_117 : decode cX10_beganOf 117 = .ok (.aload_n 0, 1) := by decide +kernel
theorem dX10_beganOf_118 : decode cX10_beganOf 118 = .ok (.iload_n 1, 1) := by decide +kernel
theorem dX10_beganOf_119 : decode cX10_beganOf 119 = .ok (.invokevirtual 144, 3) := by decide +kernel
theorem dX10_beganOf_122 : decode cX10_beganOf 122 = .ok (.iload 4, 2) := by decide +kernel
theorem dX10_beganOf_124 : decode cX10_beganOf 124 = .ok (.ireturn, 1) := by decide +kernel
theorem dX10_began_0 : decode cX10_began 0 = .ok (.aload_n 0, 1) := by decide +kernel
theorem dX10_began_1 : decode cX10_began 1 = .ok (.invokevirtual 151, 3) := by decide +kernel
theorem dX10_began_4 : decode cX10_began 4 = .ok (.aload_n 0, 1) := by decide +kernel
theorem dX10_began_5 : decode cX10_began 5 = .ok (.iload_n 1, 1) := by decide +kernel
theorem dX10_began_6 : decode cX10_began 6 = .ok (.invokevirtual 123, 3) := by decide +kernel
theorem dX10_began_9 : decode cX10_began 9 = .ok (.ifCond .eq 11, 3) := by decide +kernel
theorem dX10_began_12 : decode cX10_began 12 = .ok (.aload_n 0, 1) := by decide +kernel
theorem dX10_began_13 : decode cX10_began 13 = .ok (.iload_n 1, 1) := by decide +kernel
theorem dX10_began_14 : decode cX10_began 14 = .ok (.invokevirtual 217, 3) := by decide +kernel
theorem dX10_began_17 : decode cX10_began 17 = .ok (.goto 5, 3) := by decide +kernel
theorem dX10_began_20 : decode cX10_began 20 = .ok (.bipush (-2), 2) := by decide +kernel
theorem dX10_began_22 : decode cX10_began 22 = .ok (.ireturn, 1) := by decide +kernel
theorem dX10_mostAlike_0 : decode cX10_mostAlike 0 = .ok (.iconst 0, 1) := by decide +kernel
theorem dX10_mostAlike_1 : decode cX10_mostAlike 1 = .ok (.istore_n 3, 1) := by decide +kernel
theorem dX10_mostAlike_2 : decode cX10_mostAlike 2 = .ok (.iconst 0, 1) := by decide +kernel
theorem dX10_mostAlike_3 : decode cX10_mostAlike 3 = .ok (.istore 4, 2) := by decide +kernel
theorem dX10_mostAlike_5 : decode cX10_mostAlike 5 = .ok (.iload 4, 2) := by decide +kernel
theorem dX10_mostAlike_7 : decode cX10_mostAlike 7 = .ok (.aload_n 0, 1) := by decide +kernel
theorem dX10_mostAlike_8 : decode cX10_mostAlike 8 = .ok (.getfield 103, 3) := by decide +kernel
theorem dX10_mostAlike_11 : decode cX10_mostAlike 11 = .ok (.if_icmp .ge 98, 3) := by decide +kernel
theorem dX10_mostAlike_14 : decode cX10_mostAlike 14 = .ok (.iconst 0, 1) := by decide +kernel
theorem dX10_mostAlike_15 : decode cX10_mostAlike 15 = .ok (.istore 5, 2) := by decide +kernel
theorem dX10_mostAlike_17 : decode cX10_mostAlike 17 = .ok (.iconst 0, 1) := by decide +kernel
theorem dX10_mostAlike_18 : decode cX10_mostAlike 18 = .ok (.istore 6, 2) := by decide +kernel
theorem dX10_mostAlike_20 : decode cX10_mostAlike 20 = .ok (.iload 6, 2) := by decide +kernel
theorem dX10_mostAlike_22 : decode cX10_mostAlike 22 = .ok (.aload_n 0, 1) := by decide +kernel
theorem dX10_mostAlike_23 : decode cX10_mostAlike 23 = .ok (.getfield 103, 3) := by decide +kernel
theorem dX10_mostAlike_26 : decode cX10_mostAlike 26 = .ok (.if_icmp .ge 64, 3) := by decide +kernel
theorem dX10_mostAlike_29 : decode cX10_mostAlike 29 = .ok (.iload 5, 2) := by decide +kernel
theorem dX10_mostAlike_31 : decode cX10_mostAlike 31 = .ok (.iload_n 2, 1) := by decide +kernel
theorem dX10_mostAlike_32 : decode cX10_mostAlike 32 = .ok (.iload 4, 2) := by decide +kernel
theorem dX10_mostAlike_34 : decode cX10_mostAlike 34 = .ok (.invokestatic 137, 3) := by decide +kernel
theorem dX10_mostAlike_37 : decode cX10_mostAlike 37 = .ok (.ifCond .eq 43, 3) := by decide +kernel
theorem dX10_mostAlike_40 : decode cX10_mostAlike 40 = .ok (.iload_n 2, 1) := by decide +kernel
theorem dX10_mostAlike_41 : decode cX10_mostAlike 41 = .ok (.iload 6, 2) := by decide +kernel
theorem dX10_mostAlike_43 : decode cX10_mostAlike 43 = .ok (.invokestatic 137, 3) := by decide +kernel
theorem dX10_mostAlike_46 : decode cX10_mostAlike 46 = .ok (.ifCond .eq 34, 3) := by decide +kernel
theorem dX10_mostAlike_49 : decode cX10_mostAlike 49 = .ok (.aload_n 0, 1) := by decide +kernel
theorem dX10_mostAlike_50 : decode cX10_mostAlike 50 = .ok (.getfield 40, 3) := by decide +kernel
theorem dX10_mostAlike_53 : decode cX10_mostAlike 53 = .ok (.bipush 8, 2) := by decide +kernel
theorem dX10_mostAlike_55 : decode cX10_mostAlike 55 = .ok (.iload 4, 2) := by decide +kernel
theorem dX10_mostAlike_57 : decode cX10_mostAlike 57 = .ok (.imul, 1) := by decide +kernel
theorem dX10_mostAlike_58 : decode cX10_mostAlike 58 = .ok (.iload_n 1, 1) := by decide +kernel
theorem dX10_mostAlike_59 : decode cX10_mostAlike 59 = .ok (.iadd, 1) := by decide +kernel
theorem dX10_mostAlike_60 : decode cX10_mostAlike 60 = .ok (.iaload, 1) := by decide +kernel
theorem dX10_mostAlike_61 : decode cX10_mostAlike 61 = .ok (.aload_n 0, 1) := by decide +kernel
theorem dX10_mostAlike_62 : decode cX10_mostAlike 62 = .ok (.getfield 40, 3) := by decide +kernel
theorem dX10_mostAlike_65 : decode cX10_mostAlike 65 = .ok (.bipush 8, 2) := by decide +kernel
theorem dX10_mostAlike_67 : decode cX10_mostAlike 67 = .ok (.iload 6, 2) := by decide +kernel
theorem dX10_mostAlike_69 : decode cX10_mostAlike 69 = .ok (.imul, 1) := by decide +kernel
theorem dX10_mostAlike_70 : decode cX10_mostAlike 70 = .ok (.iload_n 1, 1) := by decide +kernel
theorem dX10_mostAlike_71 : decode cX10_mostAlike 71 = .ok (.iadd, 1) := by decide +kernel
theorem dX10_mostAlike_72 : decode cX10_mostAlike 72 = .ok (.iaload, 1) := by decide +kernel
theorem dX10_mostAlike_73 : decode cX10_mostAlike 73 = .ok (.if_icmp .ne 7, 3) := by decide +kernel
theorem dX10_mostAlike_76 : decode cX10_mostAlike 76 = .ok (.iconst 1, 1) := by decide +kernel
theorem dX10_mostAlike_77 : decode cX10_mostAlike 77 = .ok (.goto 4, 3) := by decide +kernel
theorem dX10_mostAlike_80 : decode cX10_mostAlike 80 = .ok (.iconst 0, 1) := by decide +kernel
theorem dX10_mostAlike_81 : decode cX10_mostAlike 81 = .ok (.iadd, 1) := by decide +kernel
theorem dX10_mostAlike_82 : decode cX10_mostAlike 82 = .ok (.istore 5, 2) := by decide +kernel
theorem dX10_mostAlike_84 : decode cX10_mostAlike 84 = .ok (.iinc 6 1, 3) := by decide +kernel
theorem dX10_mostAlike_87 : decode cX10_mostAlike 87 = .ok (.goto (-67), 3) := by decide +kernel
theorem dX10_mostAlike_90 : decode cX10_mostAlike 90 = .ok (.iload 5, 2) := by decide +kernel
theorem dX10_mostAlike_92 : decode cX10_mostAlike 92 = .ok (.iload_n 3, 1) := by decide +kernel
theorem dX10_mostAlike_93 : decode cX10_mostAlike 93 = .ok (.if_icmp .le 8, 3) := by decide +kernel
theorem dX10_mostAlike_96 : decode cX10_mostAlike 96 = .ok (.iload 5, 2) := by decide +kernel
theorem dX10_mostAlike_98 : decode cX10_mostAlike 98 = .ok (.goto 4, 3) := by decide +kernel
theorem dX10_mostAlike_101 : decode cX10_mostAlike 101 = .ok (.iload_n 3, 1) := by decide +kernel
theorem dX10_mostAlike_102 : decode cX10_mostAlike 102 = .ok (.istore_n 3, 1) := by decide +kernel
theorem dX10_mostAlike_103 : decode cX10_mostAlike 103 = .ok (.iinc 4 1, 3) := by decide +kernel
theorem dX10_mostAlike_106 : decode cX10_mostAlike 106 = .ok (.goto (-101), 3) := by decide +kernel
theorem dX10_mostAlike_109 : decode cX10_mostAlike 109 = .ok (.iload_n 3, 1) := by decide +kernel
theorem dX10_mostAlike_110 : decode cX10_mostAlike 110 = .ok (.ireturn, 1) := by decide +kernel
theorem dX10_askNow_0 : decode cX10_askNow 0 = .ok (.aload_n 0, 1) := by decide +kernel
theorem dX10_askNow_1 : decode cX10_askNow 1 = .ok (.invokevirtual 214, 3) := by decide +kernel
theorem dX10_askNow_4 : decode cX10_askNow 4 = .ok (.istore_n 1, 1) := by decide +kernel
theorem dX10_askNow_5 : decode cX10_askNow 5 = .ok (.iconst (-1), 1) := by decide +kernel
theorem dX10_askNow_6 : decode cX10_askNow 6 = .ok (.istore_n 2, 1) := by decide +kernel
theorem dX10_askNow_7 : decode cX10_askNow 7 = .ok (.iconst 0, 1) := by decide +kernel
theorem dX10_askNow_8 : decode cX10_askNow 8 = .ok (.istore_n 3, 1) := by decide +kernel
theorem dX10_askNow_9 : decode cX10_askNow 9 = .ok (.iconst 0, 1) := by decide +kernel
theorem dX10_askNow_10 : decode cX10_askNow 10 = .ok (.istore 4, 2) := by decide +kernel
theorem dX10_askNow_12 : decode cX10_askNow 12 = .ok (.iload 4, 2) := by decide +kernel
theorem dX10_askNow_14 : decode cX10_askNow 14 = .ok (.aload_n 0, 1) := by decide +kernel
theorem dX10_askNow_15 : decode cX10_askNow 15 = .ok (.getfield 97, 3) := by decide +kernel
theorem dX10_askNow_18 : decode cX10_askNow 18 = .ok (.if_icmp .ge 60, 3) := by decide +kernel
theorem dX10_askNow_21 : decode cX10_askNow 21 = .ok (.aload_n 0, 1) := by decide +kernel
theorem dX10_askNow_22 : decode cX10_askNow 22 = .ok (.iload 4, 2) := by decide +kernel
theorem dX10_askNow_24 : decode cX10_askNow 24 = .ok (.iload_n 1, 1) := by decide +kernel
theorem dX10_askNow_25 : decode cX10_askNow 25 = .ok (.invokevirtual 220, 3) := by decide +kernel
theorem dX10_askNow_28 : decode cX10_askNow 28 = .ok (.istore 5, 2) := by decide +kernel
theorem dX10_askNow_30 : decode cX10_askNow 30 = .ok (.iload_n 2, 1) := by decide +kernel
theorem dX10_askNow_31 : decode cX10_askNow 31 = .ok (.iconst (-1), 1) := by decide +kernel
theorem dX10_askNow_32 : decode cX10_askNow 32 = .ok (.if_icmp .eq 9, 3) := by decide +kernel
theorem dX10_askNow_35 : decode cX10_askNow 35 = .ok (.iload 5, 2) := by decide +kernel
theorem dX10_askNow_37 : decode cX10_askNow 37 = .ok (.iload_n 3, 1) := by decide +kernel
theorem dX10_askNow_38 : decode cX10_askNow 38 = .ok (.if_icmp .ge 7, 3) := by decide +kernel
theorem dX10_askNow_41 : decode cX10_askNow 41 = .ok (.iconst 1, 1) := by decide +kernel
theorem dX10_askNow_42 : decode cX10_askNow 42 = .ok (.goto 4, 3) := by decide +kernel
theorem dX10_askNow_45 : decode cX10_askNow 45 = .ok (.iconst 0, 1) := by decide +kernel
theorem dX10_askNow_46 : decode cX10_askNow 46 = .ok (.istore 6, 2) := by decide +kernel
theorem dX10_askNow_48 : decode cX10_askNow 48 = .ok (.iload 6, 2) := by decide +kernel
theorem dX10_askNow_50 : decode cX10_askNow 50 = .ok (.ifCond .eq 8, 3) := by decide +kernel
theorem dX10_askNow_53 : decode cX10_askNow 53 = .ok (.iload 4, 2) := by decide +kernel
theorem dX10_askNow_55 : decode cX10_askNow 55 = .ok (.goto 4, 3) := by decide +kernel
theorem dX10_askNow_58 : decode cX10_askNow 58 = .ok (.iload_n 2, 1) := by decide +kernel
theorem dX10_askNow_59 : decode cX10_askNow 59 = .ok (.istore_n 2, 1) := by decide +kernel
theorem dX10_askNow_60 : decode cX10_askNow 60 = .ok (.iload 6, 2) := by decide +kernel
theorem dX10_askNow_62 : decode cX10_askNow 62 = .ok (.ifCond .eq 8, 3) := by decide +kernel
theorem dX10_askNow_65 : decode cX10_askNow 65 = .ok (.iload 5, 2) := by decide +kernel
theorem dX10_askNow_67 : decode cX10_askNow 67 = .ok (.goto 4, 3) := by decide +kernel
theorem dX10_askNow_70 : decode cX10_askNow 70 = .ok (.iload_n 3, 1) := by decide +kernel
theorem dX10_askNow_71 : decode cX10_askNow 71 = .ok (.istore_n 3, 1) := by decide +kernel
theorem dX10_askNow_72 : decode cX10_askNow 72 = .ok (.iinc 4 1, 3) := by decide +kernel
theorem dX10_askNow_75 : decode cX10_askNow 75 = .ok (.goto (-63), 3) := by decide +kernel
theorem dX10_askNow_78 : decode cX10_askNow 78 = .ok (.iload_n 2, 1) := by decide +kernel
theorem dX10_askNow_79 : decode cX10_askNow 79 = .ok (.ireturn, 1) := by decide +kernel
theorem dX10_ask_0 : decode cX10_ask 0 = .ok (.aload_n 0, 1) := by decide +kernel
theorem dX10_ask_1 : decode cX10_ask 1 = .ok (.invokevirtual 151, 3) := by decide +kernel
theorem dX10_ask_4 : decode cX10_ask 4 = .ok (.aload_n 0, 1) := by decide +kernel
theorem dX10_ask_5 : decode cX10_ask 5 = .ok (.invokevirtual 223, 3) := by decide +kernel
theorem dX10_ask_8 : decode cX10_ask 8 = .ok (.ireturn, 1) := by decide +kernel
theorem dX10_roadOf_0 : decode cX10_roadOf 0 = .ok (.lconst 0, 1) := by decide +kernel
theorem dX10_roadOf_1 : decode cX10_roadOf 1 = .ok (.lstore 5, 2) := by decide +kernel
theorem dX10_roadOf_3 : decode cX10_roadOf 3 = .ok (.iconst 0, 1) := by decide +kernel
theorem dX10_roadOf_4 : decode cX10_roadOf 4 = .ok (.istore 7, 2) := by decide +kernel
theorem dX10_roadOf_6 : decode cX10_roadOf 6 = .ok (.iload 7, 2) := by decide +kernel
theorem dX10_roadOf_8 : decode cX10_roadOf 8 = .ok (.iconst 1, 1) := by decide +kernel
theorem dX10_roadOf_9 : decode cX10_roadOf 9 = .ok (.aload_n 0, 1) := by decide +kernel
theorem dX10_roadOf_10 : decode cX10_roadOf 10 = .ok (.getfield 103, 3) := by decide +kernel
theorem dX10_roadOf_13 : decode cX10_roadOf 13 = .ok (.ishl, 1) := by decide +kernel
theorem dX10_roadOf_14 : decode cX10_roadOf 14 = .ok (.if_icmp .ge 106, 3) := by decide +kernel
theorem dX10_roadOf_17 : decode cX10_roadOf 17 = .ok (.iconst 0, 1) := by decide +kernel
theorem dX10_roadOf_18 : decode cX10_roadOf 18 = .ok (.istore 8, 2) := by decide +kernel
theorem dX10_roadOf_20 : decode cX10_roadOf 20 = .ok (.lconst 1, 1) := by decide +kernel
theorem dX10_roadOf_21 : decode cX10_roadOf 21 = .ok (.lstore 9, 2) := by decide +kernel
theorem dX10_roadOf_23 : decode cX10_roadOf 23 = .ok (.iconst 0, 1) := by decide +kernel
theorem dX10_roadOf_24 : decode cX10_roadOf 24 = .ok (.istore 11, 2) := by decide +kernel
theorem dX10_roadOf_26 : decode cX10_roadOf 26 = .ok (.iload 11, 2) := by decide +kernel
theorem dX10_roadOf_28 : decode cX10_roadOf 28 = .ok (.aload_n 0, 1) := by decide +kernel
theorem dX10_roadOf_29 : decode cX10_roadOf 29 = .ok (.getfield 103, 3) := by decide +kernel
theorem dX10_roadOf_32 : decode cX10_roadOf 32 = .ok (.if_icmp .ge 65, 3) := by decide +kernel
theorem dX10_roadOf_35 : decode cX10_roadOf 35 = .ok (.iload 8, 2) := by decide +kernel
theorem dX10_roadOf_37 : decode cX10_roadOf 37 = .ok (.iload 7, 2) := by decide +kernel
theorem dX10_roadOf_39 : decode cX10_roadOf 39 = .ok (.iload 11, 2) := by decide +kernel
theorem dX10_roadOf_41 : decode cX10_roadOf 41 = .ok (.invokestatic 137, 3) := by decide +kernel
theorem dX10_roadOf_44 : decode cX10_roadOf 44 = .ok (.ifCond .eq 18, 3) := by decide +kernel
theorem dX10_roadOf_47 : decode cX10_roadOf 47 = .ok (.aload_n 0, 1) := by decide +kernel
theorem dX10_roadOf_48 : decode cX10_roadOf 48 = .ok (.getfield 40, 3) := by decide +kernel
theorem dX10_roadOf_51 : decode cX10_roadOf 51 = .ok (.bipush 8, 2) := by decide +kernel
theorem dX10_roadOf_53 : decode cX10_roadOf 53 = .ok (.iload 11, 2) := by decide +kernel
theorem dX10_roadOf_55 : decode cX10_roadOf 55 = .ok (.imul, 1) := by decide +kernel
theorem dX10_roadOf_56 : decode cX10_roadOf 56 = .ok (.iload_n 2, 1) := by decide +kernel
theorem dX10_roadOf_57 : decode cX10_roadOf 57 = .ok (.iadd, 1) := by decide +kernel
theorem dX10_roadOf_58 : decode cX10_roadOf 58 = .ok (.iaload, 1) := by decide +kernel
theorem dX10_roadOf_59 : decode cX10_roadOf 59 = .ok (.goto 4, 3) := by decide +kernel
theorem dX10_roadOf_62 : decode cX10_roadOf 62 = .ok (.iconst 0, 1) := by decide +kernel
theorem dX10_roadOf_63 : decode cX10_roadOf 63 = .ok (.iadd, 1) := by decide +kernel
theorem dX10_roadOf_64 : decode cX10_roadOf 64 = .ok (.istore 8, 2) := by decide +kernel
theorem dX10_roadOf_66 : decode cX10_roadOf 66 = .ok (.lload 9, 2) := by decide +kernel
theorem dX10_roadOf_68 : decode cX10_roadOf 68 = .ok (.iload 7, 2) := by decide +kernel
theorem dX10_roadOf_70 : decode cX10_roadOf 70 = .ok (.iload 11, 2) := by decide +kernel
theorem dX10_roadOf_72 : decode cX10_roadOf 72 = .ok (.invokestatic 137, 3) := by decide +kernel
theorem dX10_roadOf_75 : decode cX10_roadOf 75 = .ok (.ifCond .eq 8, 3) := by decide +kernel
theorem dX10_roadOf_78 : decode cX10_roadOf 78 = .ok (.iload_n 1, 1) := by decide +kernel
theorem dX10_roadOf_79 : decode cX10_roadOf 79 = .ok (.i2l, 1) := by decide +kernel
theorem dX10_roadOf_80 : decode cX10_roadOf 80 = .ok (.goto 8, 3) := by decide +kernel
theorem dX10_roadOf_83 : decode cX10_roadOf 83 = .ok (.bipush 16, 2) := by decide +kernel
theorem dX10_roadOf_85 : decode cX10_roadOf 85 = .ok (.iload_n 1, 1) := by decide +kernel
theorem dX10_roadOf_86 : decode cX10_roadOf 86 = .ok (.isub, 1) := by decide +kernel
theorem dX10_roadOf_87 : decode cX10_roadOf 87 = .ok (.i2l, 1) := by decide +kernel
theorem dX10_roadOf_88 : decode cX10_roadOf 88 = .ok (.lmul, 1) := by decide +kernel
theorem dX10_roadOf_89 : decode cX10_roadOf 89 = .ok (.lstore 9, 2) := by decide +kernel
theorem dX10_roadOf_91 : decode cX10_roadOf 91 = .ok (.iinc 11 1, 3) := by decide +kernel
theorem dX10_roadOf_94 : decode cX10_roadOf 94 = .ok (.goto (-68), 3) := by decide +kernel
theorem dX10_roadOf_97 : decode cX10_roadOf 97 = .ok (.lload 5, 2) := by decide +kernel
theorem dX10_roadOf_99 : decode cX10_roadOf 99 = .ok (.iload 8, 2) := by decide +kernel
theorem dX10_roadOf_101 : decode cX10_roadOf 101 = .ok (.iload_n 3, 1) := by decide +kernel
theorem dX10_roadOf_102 : decode cX10_roadOf 102 = .ok (.if_icmp .lt 8, 3) := by decide +kernel
theorem dX10_roadOf_105 : decode cX10_roadOf 105 = .ok (.lload 9, 2) := by decide +kernel
theorem dX10_roadOf_107 : decode cX10_roadOf 107 = .ok (.goto 4, 3) := by decide +kernel
theorem dX10_roadOf_110 : decode cX10_roadOf 110 = .ok (.lconst 0, 1) := by decide +kernel
theorem dX10_roadOf_111 : decode cX10_roadOf 111 = .ok (.ladd, 1) := by decide +kernel
theorem dX10_roadOf_112 : decode cX10_roadOf 112 = .ok (.lstore 5, 2) := by decide +kernel
theorem dX10_roadOf_114 : decode cX10_roadOf 114 = .ok (.iinc 7 1, 3) := by decide +kernel
theorem dX10_roadOf_117 : decode cX10_roadOf 117 = .ok (.goto (-111), 3) := by decide +kernel
theorem dX10_roadOf_120 : decode cX10_roadOf 120 = .ok (.lload 5, 2) := by decide +kernel
theorem dX10_roadOf_122 : decode cX10_roadOf 122 = .ok (.lconst 1, 1) := by decide +kernel
theorem dX10_roadOf_123 : decode cX10_roadOf 123 = .ok (.iconst 4, 1) := by decide +kernel
theorem dX10_roadOf_124 : decode cX10_roadOf 124 = .ok (.aload_n 0, 1) := by decide +kernel
theorem dX10_roadOf_125 : decode cX10_roadOf 125 = .ok (.getfield 103, 3) := by decide +kernel
theorem dX10_roadOf_128 : decode cX10_roadOf 128 = .ok (.imul, 1) := by decide +kernel
theorem dX10_roadOf_129 : decode cX10_roadOf 129 = .ok (.lshl, 1) := by decide +kernel
theorem dX10_roadOf_130 : decode cX10_roadOf 130 = .ok (.iload 4, 2) := by decide +kernel
theorem dX10_roadOf_132 : decode cX10_roadOf 132 = .ok (.invokestatic 226, 3) := by decide +kernel
theorem dX10_roadOf_135 : decode cX10_roadOf 135 = .ok (.lreturn, 1) := by decide +kernel
theorem dX10_road_0 : decode cX10_road 0 = .ok (.aload_n 0, 1) := by decide +kernel
theorem dX10_road_1 : decode cX10_road 1 = .ok (.invokevirtual 151, 3) := by decide +kernel
theorem dX10_road_4 : decode cX10_road 4 = .ok (.iload_n 1, 1) := by decide +kernel
theorem dX10_road_5 : decode cX10_road 5 = .ok (.i2l, 1) := by decide +kernel
theorem dX10_road_6 : decode cX10_road 6 = .ok (.lconst 0, 1) := by decide +kernel
theorem dX10_road_7 : decode cX10_road 7 = .ok (.ldc2_w 230, 3) := by decide +kernel
theorem dX10_road_10 : decode cX10_road 10 = .ok (.invokestatic 60, 3) := by decide +kernel
theorem dX10_road_13 : decode cX10_road 13 = .ok (.ifCond .eq 43, 3) := by decide +kernel
theorem dX10_road_16 : decode cX10_road 16 = .ok (.aload_n 0, 1) := by decide +kernel
theorem dX10_road_17 : decode cX10_road 17 = .ok (.iload_n 2, 1) := by decide +kernel
theorem dX10_road_18 : decode cX10_road 18 = .ok (.invokevirtual 120, 3) := by decide +kernel
theorem dX10_road_21 : decode cX10_road 21 = .ok (.ifCond .eq 35, 3) := by decide +kernel
theorem dX10_road_24 : decode cX10_road 24 = .ok (.iload_n 3, 1) := by decide +kernel
theorem dX10_road_25 : decode cX10_road 25 = .ok (.i2l, 1) := by decide +kernel
theorem dX10_road_26 : decode cX10_road 26 = .ok (.lconst 0, 1) := by decide +kernel
theorem dX10_road_27 : decode cX10_road 27 = .ok (.ldc2_w 200, 3) := by decide +kernel
theorem dX10_road_30 : decode cX10_road 30 = .ok (.invokestatic 60, 3) := by decide +kernel
theorem dX10_road_33 : decode cX10_road 33 = .ok (.ifCond .eq 23, 3) := by decide +kernel
theorem dX10_road_36 : decode cX10_road 36 = .ok (.iload 4, 2) := by decide +kernel
theorem dX10_road_38 : decode cX10_road 38 = .ok (.invokestatic 89, 3) := by decide +kernel
theorem dX10_road_41 : decode cX10_road 41 = .ok (.ifCond .eq 15, 3) := by decide +kernel
theorem dX10_road_44 : decode cX10_road 44 = .ok (.aload_n 0, 1) := by decide +kernel
theorem dX10_road_45 : decode cX10_road 45 = .ok (.iload_n 1, 1) := by decide +kernel
theorem dX10_road_46 : decode cX10_road 46 = .ok (.iload_n 2, 1) := by decide +kernel
theorem dX10_road_47 : decode cX10_road 47 = .ok (.iload_n 3, 1) := by decide +kernel
theorem dX10_road_48 : decode cX10_road 48 = .ok (.iload 4, 2) := by decide +kernel
theorem dX10_road_50 : decode cX10_road 50 = .ok (.invokevirtual 232, 3) := by decide +kernel
theorem dX10_road_53 : decode cX10_road 53 = .ok (.goto 8, 3) := by decide +kernel
theorem dX10_road_56 : decode cX10_road 56 = .ok (.bipush (-2), 2) := by decide +kernel
theorem dX10_road_58 : decode cX10_road 58 = .ok (.invokestatic 236, 3) := by decide +kernel
theorem dX10_road_61 : decode cX10_road 61 = .ok (.lreturn, 1) := by decide +kernel
theorem dX10_lot_0 : decode cX10_lot 0 = .ok (.aload_n 0, 1) := by decide +kernel
theorem dX10_lot_1 : decode cX10_lot 1 = .ok (.ldc 240, 2) := by decide +kernel
theorem dX10_lot_3 : decode cX10_lot 3 = .ok (.aload_n 0, 1) := by decide +kernel
theorem dX10_lot_4 : decode cX10_lot 4 = .ok (.getfield 241, 3) := by decide +kernel
theorem dX10_lot_7 : decode cX10_lot 7 = .ok (.imul, 1) := by decide +kernel
theorem dX10_lot_8 : decode cX10_lot 8 = .ok (.sipush 12345, 3) := by decide +kernel
theorem dX10_lot_11 : decode cX10_lot 11 = .ok (.iadd, 1) := by decide +kernel
theorem dX10_lot_12 : decode cX10_lot 12 = .ok (.putfield 241, 3) := by decide +kernel
theorem dX10_lot_15 : decode cX10_lot 15 = .ok (.aload_n 0, 1) := by decide +kernel
theorem dX10_lot_16 : decode cX10_lot 16 = .ok (.getfield 241, 3) := by decide +kernel
theorem dX10_lot_19 : decode cX10_lot 19 = .ok (.bipush 16, 2) := by decide +kernel
theorem dX10_lot_21 : decode cX10_lot 21 = .ok (.iushr, 1) := by decide +kernel
theorem dX10_lot_22 : decode cX10_lot 22 = .ok (.iload_n 1, 1) := by decide +kernel
theorem dX10_lot_23 : decode cX10_lot 23 = .ok (.irem, 1) := by decide +kernel
theorem dX10_lot_24 : decode cX10_lot 24 = .ok (.ireturn, 1) := by decide +kernel
theorem dX10_seasonOf_0 : decode cX10_seasonOf 0 = .ok (.aload_n 0, 1) := by decide +kernel
theorem dX10_seasonOf_1 : decode cX10_seasonOf 1 = .ok (.iload_n 1, 1) := by decide +kernel
theorem dX10_seasonOf_2 : decode cX10_seasonOf 2 = .ok (.putfield 241, 3) := by decide +kernel
theorem dX10_seasonOf_5 : decode cX10_seasonOf 5 = .ok (.iconst 0, 1) := by decide +kernel
theorem dX10_seasonOf_6 : decode cX10_seasonOf 6 = .ok (.istore 5, 2) := by decide +kernel
theorem dX10_seasonOf_8 : decode cX10_seasonOf 8 = .ok (.iconst 0, 1) := by decide +kernel
theorem dX10_seasonOf_9 : decode cX10_seasonOf 9 = .ok (.istore 6, 2) := by decide +kernel
theorem dX10_seasonOf_11 : decode cX10_seasonOf 11 = .ok (.iload 6, 2) := by decide +kernel
theorem dX10_seasonOf_13 : decode cX10_seasonOf 13 = .ok (.iload_n 2, 1) := by decide +kernel
theorem dX10_seasonOf_14 : decode cX10_seasonOf 14 = .ok (.if_icmp .ge 67, 3) := by decide +kernel
theorem dX10_seasonOf_17 : decode cX10_seasonOf 17 = .ok (.aload_n 0, 1) := by decide +kernel
theorem dX10_seasonOf_18 : decode cX10_seasonOf 18 = .ok (.getfield 103, 3) := by decide +kernel
theorem dX10_seasonOf_21 : decode cX10_seasonOf 21 = .ok (.ifCond .le 60, 3) := by decide +kernel
theorem dX10_seasonOf_24 : decode cX10_seasonOf 24 = .ok (.aload_n 0, 1) := by decide +kernel
theorem dX10_seasonOf_25 : decode cX10_seasonOf 25 = .ok (.aload_n 0, 1) := by decide +kernel
theorem dX10_seasonOf_26 : decode cX10_seasonOf 26 = .ok (.getfield 103, 3) := by decide +kernel
theorem dX10_seasonOf_29 : decode cX10_seasonOf 29 = .ok (.invokevirtual 244, 3) := by decide +kernel
theorem dX10_seasonOf_32 : decode cX10_seasonOf 32 = .ok (.istore 7, 2) := by decide +kernel
theorem dX10_seasonOf_34 : decode cX10_seasonOf 34 = .ok (.iload 5, 2) := by decide +kernel
theorem dX10_seasonOf_36 : decode cX10_seasonOf 36 = .ok (.iload 4, 2) := by decide +kernel
theorem dX10_seasonOf_38 : decode cX10_seasonOf 38 = .ok (.ifCond .ne 18, 3) := by decide +kernel
theorem dX10_seasonOf_41 : decode cX10_seasonOf 41 = .ok (.aload_n 0, 1) := by decide +kernel
theorem dX10_seasonOf_42 : decode cX10_seasonOf 42 = .ok (.getfield 40, 3) := by decide +kernel
theorem dX10_seasonOf_45 : decode cX10_seasonOf 45 = .ok (.bipush 8, 2) := by decide +kernel
theorem dX10_seasonOf_47 : decode cX10_seasonOf 47 = .ok (.iload 7, 2) := by decide +kernel
theorem dX10_seasonOf_49 : decode cX10_seasonOf 49 = .ok (.imul, 1) := by decide +kernel
theorem dX10_seasonOf_50 : decode cX10_seasonOf 50 = .ok (.iload_n 3, 1) := by decide +kernel
theorem dX10_seasonOf_51 : decode cX10_seasonOf 51 = .ok (.iadd, 1) := by decide +kernel
theorem dX10_seasonOf_52 : decode cX10_seasonOf 52 = .ok (.iaload, 1) := by decide +kernel
theorem dX10_seasonOf_53 : decode cX10_seasonOf 53 = .ok (.goto 19, 3) := by decide +kernel
theorem dX10_seasonOf_56 : decode cX10_seasonOf 56 = .ok (.aload_n 0, 1) := by decide +kernel
theorem dX10_seasonOf_57 : decode cX10_seasonOf 57 = .ok (.getfield 43, 3) := by decide +kernel
theorem dX10_seasonOf_60 : decode cX10_seasonOf 60 = .ok (.iload 7, 2) := by decide +kernel
theorem dX10_seasonOf_62 : decode cX10_seasonOf 62 = .ok (.iaload, 1) := by decide +kernel
theorem dX10_seasonOf_63 : decode cX10_seasonOf 63 = .ok (.iload_n 3, 1) := by decide +kernel
theorem dX10_seasonOf_64 : decode cX10_seasonOf 64 = .ok (.if_icmp .ne 7, 3) := by decide +kernel
theorem dX10_seasonOf_67 : decode cX10_seasonOf 67 = .ok (.iconst 1, 1) := by decide +kernel
theorem dX10_seasonOf_68 : decode cX10_seasonOf 68 = .ok (.goto 4, 3) := by decide +kernel
theorem dX10_seasonOf_71 : decode cX10_seasonOf 71 = .ok (.iconst 0, 1) := by decide +kernel
theorem dX10_seasonOf_72 : decode cX10_seasonOf 72 = .ok (.iadd, 1) := by decide +kernel
theorem dX10_seasonOf_73 : decode cX10_seasonOf 73 = .ok (.istore 5, 2) := by decide +kernel
theorem dX10_seasonOf_75 : decode cX10_seasonOf 75 = .ok (.iinc 6 1, 3) := by decide +kernel
theorem dX10_seasonOf_78 : decode cX10_seasonOf 78 = .ok (.goto (-67), 3) := by decide +kernel
theorem dX10_seasonOf_81 : decode cX10_seasonOf 81 = .ok (.iload 5, 2) := by decide +kernel
theorem dX10_seasonOf_83 : decode cX10_seasonOf 83 = .ok (.ireturn, 1) := by decide +kernel
theorem dX10_season_0 : decode cX10_season 0 = .ok (.aload_n 0, 1) := by decide +kernel
theorem dX10_season_1 : decode cX10_season 1 = .ok (.invokevirtual 151, 3) := by decide +kernel
theorem dX10_season_4 : decode cX10_season 4 = .ok (.iload_n 2, 1) := by decide +kernel
theorem dX10_season_5 : decode cX10_season 5 = .ok (.i2l, 1) := by decide +kernel
theorem dX10_season_6 : decode cX10_season 6 = .ok (.lconst 1, 1) := by decide +kernel
theorem dX10_season_7 : decode cX10_season 7 = .ok (.ldc2_w 247, 3) := by decide +kernel
theorem dX10_season_10 : decode cX10_season 10 = .ok (.invokestatic 60, 3) := by decide +kernel
theorem dX10_season_13 : decode cX10_season 13 = .ok (.ifCond .eq 31, 3) := by decide +kernel
theorem dX10_season_16 : decode cX10_season 16 = .ok (.aload_n 0, 1) := by decide +kernel
theorem dX10_season_17 : decode cX10_season 17 = .ok (.iload_n 3, 1) := by decide +kernel
theorem dX10_season_18 : decode cX10_season 18 = .ok (.invokevirtual 120, 3) := by decide +kernel
theorem dX10_season_21 : decode cX10_season 21 = .ok (.ifCond .eq 23, 3) := by decide +kernel
theorem dX10_season_24 : decode cX10_season 24 = .ok (.iload 4, 2) := by decide +kernel
theorem dX10_season_26 : decode cX10_season 26 = .ok (.invokestatic 89, 3) := by decide +kernel
theorem dX10_season_29 : decode cX10_season 29 = .ok (.ifCond .eq 15, 3) := by decide +kernel
theorem dX10_season_32 : decode cX10_season 32 = .ok (.aload_n 0, 1) := by decide +kernel
theorem dX10_season_33 : decode cX10_season 33 = .ok (.iload_n 1, 1) := by decide +kernel
theorem dX10_season_34 : decode cX10_season 34 = .ok (.iload_n 2, 1) := by decide +kernel
theorem dX10_season_35 : decode cX10_season 35 = .ok (.iload_n 3, 1) := by decide +kernel
theorem dX10_season_36 : decode cX10_season 36 = .ok (.iload 4, 2) := by decide +kernel
theorem dX10_season_38 : decode cX10_season 38 = .ok (.invokevirtual 249, 3) := by decide +kernel
theorem dX10_season_41 : decode cX10_season 41 = .ok (.goto 5, 3) := by decide +kernel
theorem dX10_season_44 : decode cX10_season 44 = .ok (.bipush (-2), 2) := by decide +kernel
theorem dX10_season_46 : decode cX10_season 46 = .ok (.ireturn, 1) := by decide +kernel
theorem dX10_write_0 : decode cX10_write 0 = .ok (.iload_n 1, 1) := by decide +kernel
theorem dX10_write_1 : decode cX10_write 1 = .ok (.invokestatic 89, 3) := by decide +kernel
theorem dX10_write_4 : decode cX10_write 4 = .ok (.ifCond .eq 10, 3) := by decide +kernel
theorem dX10_write_7 : decode cX10_write 7 = .ok (.iload_n 2, 1) := by decide +kernel
theorem dX10_write_8 : decode cX10_write 8 = .ok (.invokestatic 70, 3) := by decide +kernel
theorem dX10_write_11 : decode cX10_write 11 = .ok (.ifCond .ne 6, 3) := by decide +kernel
theorem dX10_write_14 : decode cX10_write 14 = .ok (.bipush (-2), 2) := by decide +kernel
theorem dX10_write_16 : decode cX10_write 16 = .ok (.ireturn, 1) := by decide +kernel
theorem dX10_write_17 : decode cX10_write 17 = .ok (.aload_n 0, 1) := by decide +kernel
theorem dX10_write_18 : decode cX10_write 18 = .ok (.getfield 7, 3) := by decide +kernel
theorem dX10_write_21 : decode cX10_write 21 = .ok (.iload_n 2, 1) := by decide +kernel
theorem dX10_write_22 : decode cX10_write 22 = .ok (.iaload, 1) := by decide +kernel
theorem dX10_write_23 : decode cX10_write 23 = .ok (.ifCond .ge 9, 3) := by decide +kernel
theorem dX10_write_26 : decode cX10_write 26 = .ok (.aload_n 0, 1) := by decide +kernel
theorem dX10_write_27 : decode cX10_write 27 = .ok (.iconst 1, 1) := by decide +kernel
theorem dX10_write_28 : decode cX10_write 28 = .ok (.invokevirtual 76, 3) := by decide +kernel
theorem dX10_write_31 : decode cX10_write 31 = .ok (.ireturn, 1) := by decide +kernel
theorem dX10_write_32 : decode cX10_write 32 = .ok (.aload_n 0, 1) := by decide +kernel
theorem dX10_write_33 : decode cX10_write 33 = .ok (.invokevirtual 151, 3) := by decide +kernel
theorem dX10_write_36 : decode cX10_write 36 = .ok (.aload_n 0, 1) := by decide +kernel
theorem dX10_write_37 : decode cX10_write 37 = .ok (.getfield 13, 3) := by decide +kernel
theorem dX10_write_40 : decode cX10_write 40 = .ok (.iload_n 2, 1) := by decide +kernel
theorem dX10_write_41 : decode cX10_write 41 = .ok (.iaload, 1) := by decide +kernel
theorem dX10_write_42 : decode cX10_write 42 = .ok (.aload_n 0, 1) := by decide +kernel
theorem dX10_write_43 : decode cX10_write 43 = .ok (.getfield 97, 3) := by decide +kernel
theorem dX10_write_46 : decode cX10_write 46 = .ok (.invokestatic 134, 3) := by decide +kernel
theorem dX10_write_49 : decode cX10_write 49 = .ok (.istore_n 3, 1) := by decide +kernel
theorem dX10_write_50 : decode cX10_write 50 = .ok (.iconst 0, 1) := by decide +kernel
theorem dX10_write_51 : decode cX10_write 51 = .ok (.istore 4, 2) := by decide +kernel
theorem dX10_write_53 : decode cX10_write 53 = .ok (.iload 4, 2) := by decide +kernel
theorem dX10_write_55 : decode cX10_write 55 = .ok (.iload_n 3, 1) := by decide +kernel
theorem dX10_write_56 : decode cX10_write 56 = .ok (.if_icmp .ge 37, 3) := by decide +kernel
theorem dX10_write_59 : decode cX10_write 59 = .ok (.aload_n 0, 1) := by decide +kernel
theorem dX10_write_60 : decode cX10_write 60 = .ok (.getfield 16, 3) := by decide +kernel
theorem dX10_write_63 : decode cX10_write 63 = .ok (.bipush 60, 2) := by decide +kernel
theorem dX10_write_65 : decode cX10_write 65 = .ok (.iload_n 2, 1) := by decide +kernel
theorem dX10_write_66 : decode cX10_write 66 = .ok (.imul, 1) := by decide +kernel
theorem dX10_write_67 : decode cX10_write 67 = .ok (.iload 4, 2) := by decide +kernel
theorem dX10_write_69 : decode cX10_write 69 = .ok (.iadd, 1) := by decide +kernel
theorem dX10_write_70 : decode cX10_write 70 = .ok (.aload_n 0, 1) := by decide +kernel
theorem dX10_write_71 : decode cX10_write 71 = .ok (.getfield 7, 3) := by decide +kernel
theorem dX10_write_74 : decode cX10_write 74 = .ok (.iload_n 2, 1) := by decide +kernel
theorem dX10_write_75 : decode cX10_write 75 = .ok (.iaload, 1) := by decide +kernel
theorem dX10_write_76 : decode cX10_write 76 = .ok (.aload_n 0, 1) := by decide +kernel
theorem dX10_write_77 : decode cX10_write 77 = .ok (.iload 4, 2) := by decide +kernel
theorem dX10_write_79 : decode cX10_write 79 = .ok (.iload_n 1, 1) := by decide +kernel
theorem dX10_write_80 : decode cX10_write 80 = .ok (.invokevirtual 160, 3) := by decide +kernel
theorem dX10_write_83 : decode cX10_write 83 = .ok (.invokestatic 84, 3) := by decide +kernel
theorem dX10_write_86 : decode cX10_write 86 = .ok (.iastore, 1) := by decide +kernel
theorem dX10_write_87 : decode cX10_write 87 = .ok (.iinc 4 1, 3) := by decide +kernel
theorem dX10_write_90 : decode cX10_write 90 = .ok (.goto (-37), 3) := by decide +kernel
theorem dX10_write_93 : decode cX10_write 93 = .ok (.iload_n 3, 1) := by decide +kernel
theorem dX10_write_94 : decode cX10_write 94 = .ok (.ireturn, 1) := by decide +kernel
theorem dX10_allGiven_0 : decode cX10_allGiven 0 = .ok (.iconst 0, 1) := by decide +kernel
theorem dX10_allGiven_1 : decode cX10_allGiven 1 = .ok (.istore_n 1, 1) := by decide +kernel
theorem dX10_allGiven_2 : decode cX10_allGiven 2 = .ok (.iconst 0, 1) := by decide +kernel
theorem dX10_allGiven_3 : decode cX10_allGiven 3 = .ok (.istore_n 2, 1) := by decide +kernel
theorem dX10_allGiven_4 : decode cX10_allGiven 4 = .ok (.iload_n 2, 1) := by decide +kernel
theorem dX10_allGiven_5 : decode cX10_allGiven 5 = .ok (.aload_n 0, 1) := by decide +kernel
theorem dX10_allGiven_6 : decode cX10_allGiven 6 = .ok (.getfield 97, 3) := by decide +kernel
theorem dX10_allGiven_9 : decode cX10_allGiven 9 = .ok (.if_icmp .ge 18, 3) := by decide +kernel
theorem dX10_allGiven_12 : decode cX10_allGiven 12 = .ok (.iload_n 1, 1) := by decide +kernel
theorem dX10_allGiven_13 : decode cX10_allGiven 13 = .ok (.aload_n 0, 1) := by decide +kernel
theorem dX10_allGiven_14 : decode cX10_allGiven 14 = .ok (.iload_n 2, 1) := by decide +kernel
theorem dX10_allGiven_15 : decode cX10_allGiven 15 = .ok (.iconst 0, 1) := by decide +kernel
theorem dX10_allGiven_16 : decode cX10_allGiven 16 = .ok (.invokevirtual 160, 3) := by decide +kernel
theorem dX10_allGiven_19 : decode cX10_allGiven 19 = .ok (.iadd, 1) := by decide +kernel
theorem dX10_allGiven_20 : decode cX10_allGiven 20 = .ok (.istore_n 1, 1) := by decide +kernel
theorem dX10_allGiven_21 : decode cX10_allGiven 21 = .ok (.iinc 2 1, 3) := by decide +kernel
theorem dX10_allGiven_24 : decode cX10_allGiven 24 = .ok (.goto (-20), 3) := by decide +kernel
theorem dX10_allGiven_27 : decode cX10_allGiven 27 = .ok (.iload_n 1, 1) := by decide +kernel
theorem dX10_allGiven_28 : decode cX10_allGiven 28 = .ok (.ireturn, 1) := by decide +kernel
theorem dX10_sleeping_0 : decode cX10_sleeping 0 = .ok (.iconst 0, 1) := by decide +kernel
theorem dX10_sleeping_1 : decode cX10_sleeping 1 = .ok (.istore_n 1, 1) := by decide +kernel
theorem dX10_sleeping_2 : decode cX10_sleeping 2 = .ok (.iconst 0, 1) := by decide +kernel
theorem dX10_sleeping_3 : decode cX10_sleeping 3 = .ok (.istore_n 2, 1) := by decide +kernel
theorem dX10_sleeping_4 : decode cX10_sleeping 4 = .ok (.iload_n 2, 1) := by decide +kernel
theorem dX10_sleeping_5 : decode cX10_sleeping 5 = .ok (.aload_n 0, 1) := by decide +kernel
theorem dX10_sleeping_6 : decode cX10_sleeping 6 = .ok (.getfield 103, 3) := by decide +kernel
theorem dX10_sleeping_9 : decode cX10_sleeping 9 = .ok (.if_icmp .ge 27, 3) := by decide +kernel
theorem dX10_sleeping_12 : decode cX10_sleeping 12 = .ok (.iload_n 1, 1) := by decide +kernel
theorem dX10_sleeping_13 : decode cX10_sleeping 13 = .ok (.aload_n 0, 1) := by decide +kernel
theorem dX10_sleeping_14 : decode cX10_sleeping 14 = .ok (.getfield 43, 3) := by decide +kernel
theorem dX10_sleeping_17 : decode cX10_sleeping 17 = .ok (.iload_n 2, 1) := by decide +kernel
theorem dX10_sleeping_18 : decode cX10_sleeping 18 = .ok (.iaload, 1) := by decide +kernel
theorem dX10_sleeping_19 : decode cX10_sleeping 19 = .ok (.iconst (-1), 1) := by decide +kernel
theorem dX10_sleeping_20 : decode cX10_sleeping 20 = .ok (.if_icmp .ne 7, 3) := by decide +kernel
theorem dX10_sleeping_23 : decode cX10_sleeping 23 = .ok (.iconst 0, 1) := by decide +kernel
theorem dX10_sleeping_24 : decode cX10_sleeping 24 = .ok (.goto 4, 3) := by decide +kernel
theorem dX10_sleeping_27 : decode cX10_sleeping 27 = .ok (.iconst 1, 1) := by decide +kernel
theorem dX10_sleeping_28 : decode cX10_sleeping 28 = .ok (.iadd, 1) := by decide +kernel
theorem dX10_sleeping_29 : decode cX10_sleeping 29 = .ok (.istore_n 1, 1) := by decide +kernel
theorem dX10_sleeping_30 : decode cX10_sleeping 30 = .ok (.iinc 2 1, 3) := by decide +kernel
theorem dX10_sleeping_33 : decode cX10_sleeping 33 = .ok (.goto (-29), 3) := by decide +kernel
theorem dX10_sleeping_36 : decode cX10_sleeping 36 = .ok (.iload_n 1, 1) := by decide +kernel
theorem dX10_sleeping_37 : decode cX10_sleeping 37 = .ok (.ireturn, 1) := by decide +kernel
theorem dX10_count_0 : decode cX10_count 0 = .ok (.aload_n 0, 1) := by decide +kernel
theorem dX10_count_1 : decode cX10_count 1 = .ok (.invokevirtual 151, 3) := by decide +kernel
theorem dX10_count_4 : decode cX10_count 4 = .ok (.iload_n 1, 1) := by decide +kernel
theorem dX10_count_5 : decode cX10_count 5 = .ok (.tableswitch 97 0 8 #[51, 56, 61, 61, 70, 75, 80, 87, 92], 51) := by decide +kernel
theorem dX10_count_56 : decode cX10_count 56 = .ok (.aload_n 0, 1) := by decide +kernel
theorem dX10_count_57 : decode cX10_count 57 = .ok (.getfield 97, 3) := by decide +kernel
theorem dX10_count_60 : decode cX10_count 60 = .ok (.ireturn, 1) := by decide +kernel
theorem dX10_count_61 : decode cX10_count 61 = .ok (.aload_n 0, 1) := by decide +kernel
theorem dX10_count_62 : decode cX10_count 62 = .ok (.getfield 103, 3) := by decide +kernel
theorem dX10_count_65 : decode cX10_count 65 = .ok (.ireturn, 1) := by decide +kernel
theorem dX10_count_66 : decode cX10_count 66 = .ok (.aload_n 0, 1) := by decide +kernel
theorem dX10_count_67 : decode cX10_count 67 = .ok (.getfield 25, 3) := by decide +kernel
theorem dX10_count_70 : decode cX10_count 70 = .ok (.iload_n 1, 1) := by decide +kernel
theorem dX10_count_71 : decode cX10_count 71 = .ok (.iconst 2, 1) := by decide +kernel
theorem dX10_count_72 : decode cX10_count 72 = .ok (.isub, 1) := by decide +kernel
theorem dX10_count_73 : decode cX10_count 73 = .ok (.iaload, 1) := by decide +kernel
theorem dX10_count_74 : decode cX10_count 74 = .ok (.ireturn, 1) := by decide +kernel
theorem dX10_count_75 : decode cX10_count 75 = .ok (.aload_n 0, 1) := by decide +kernel
theorem dX10_count_76 : decode cX10_count 76 = .ok (.invokevirtual 253, 3) := by decide +kernel
theorem dX10_count_79 : decode cX10_count 79 = .ok (.ireturn, 1) := by decide +kernel
theorem dX10_count_80 : decode cX10_count 80 = .ok (.aload_n 0, 1) := by decide +kernel
theorem dX10_count_81 : decode cX10_count 81 = .ok (.invokevirtual 256, 3) := by decide +kernel
theorem dX10_count_84 : decode cX10_count 84 = .ok (.ireturn, 1) := by decide +kernel
theorem dX10_count_85 : decode cX10_count 85 = .ok (.aload_n 0, 1) := by decide +kernel
theorem dX10_count_86 : decode cX10_count 86 = .ok (.getfield 34, 3) := by decide +kernel
theorem dX10_count_89 : decode cX10_count 89 = .ok (.iconst 1, 1) := by decide +kernel
theorem dX10_count_90 : decode cX10_count 90 = .ok (.iaload, 1) := by decide +kernel
theorem dX10_count_91 : decode cX10_count 91 = .ok (.ireturn, 1) := by decide +kernel
theorem dX10_count_92 : decode cX10_count 92 = .ok (.aload_n 0, 1) := by decide +kernel
theorem dX10_count_93 : decode cX10_count 93 = .ok (.getfield 202, 3) := by decide +kernel
theorem dX10_count_96 : decode cX10_count 96 = .ok (.ireturn, 1) := by decide +kernel
theorem dX10_count_97 : decode cX10_count 97 = .ok (.aload_n 0, 1) := by decide +kernel
theorem dX10_count_98 : decode cX10_count 98 = .ok (.getfield 64, 3) := by decide +kernel
theorem dX10_count_101 : decode cX10_count 101 = .ok (.ireturn, 1) := by decide +kernel
theorem dX10_count_102 : decode cX10_count 102 = .ok (.bipush (-2), 2) := by decide +kernel
theorem dX10_count_104 : decode cX10_count 104 = .ok (.ireturn, 1) := by decide +kernel
theorem dX10_tellsHouse_0 : decode cX10_tellsHouse 0 = .ok (.lload_n 1, 1) := by decide +kernel
theorem dX10_tellsHouse_1 : decode cX10_tellsHouse 1 = .ok (.lstore 4, 2) := by decide +kernel
theorem dX10_tellsHouse_3 : decode cX10_tellsHouse 3 = .ok (.iconst 0, 1) := by decide +kernel
theorem dX10_tellsHouse_4 : decode cX10_tellsHouse 4 = .ok (.istore 6, 2) := by decide +kernel
theorem dX10_tellsHouse_6 : decode cX10_tellsHouse 6 = .ok (.iload 6, 2) := by decide +kernel
theorem dX10_tellsHouse_8 : decode cX10_tellsHouse 8 = .ok (.iconst 3, 1) := by decide +kernel
theorem dX10_tellsHouse_9 : decode cX10_tellsHouse 9 = .ok (.if_icmp .ge 30, 3) := by decide +kernel
theorem dX10_tellsHouse_12 : decode cX10_tellsHouse 12 = .ok (.ldc2_w 259, 3) := by decide +kernel
theorem dX10_tellsHouse_15 : decode cX10_tellsHouse 15 = .ok (.lload 4, 2) := by decide +kernel
theorem dX10_tellsHouse_17 : decode cX10_tellsHouse 17 = .ok (.lmul, 1) := by decide +kernel
theorem dX10_tellsHouse_18 : decode cX10_tellsHouse 18 = .ok (.aload_n 0, 1) := by decide +kernel
theorem dX10_tellsHouse_19 : decode cX10_tellsHouse 19 = .ok (.getfield 28, 3) := by decide +kernel
theorem dX10_tellsHouse_22 : decode cX10_tellsHouse 22 = .ok (.iconst 3, 1) := by decide +kernel
theorem dX10_tellsHouse_23 : decode cX10_tellsHouse 23 = .ok (.iload_n 3, 1) := by decide +kernel
theorem dX10_tellsHouse_24 : decode cX10_tellsHouse 24 = .ok (.imul, 1) := by decide +kernel
theorem dX10_tellsHouse_25 : decode cX10_tellsHouse 25 = .ok (.iload 6, 2) := by decide +kernel
theorem dX10_tellsHouse_27 : decode cX10_tellsHouse 27 = .ok (.iadd, 1) := by decide +kernel
theorem dX10_tellsHouse_28 : decode cX10_tellsHouse 28 = .ok (.iaload, 1) := by decide +kernel
theorem dX10_tellsHouse_29 : decode cX10_tellsHouse 29 = .ok (.i2l, 1) := by decide +kernel
theorem dX10_tellsHouse_30 : decode cX10_tellsHouse 30 = .ok (.ladd, 1) := by decide +kernel
theorem dX10_tellsHouse_31 : decode cX10_tellsHouse 31 = .ok (.lstore 4, 2) := by decide +kernel
theorem dX10_tellsHouse_33 : decode cX10_tellsHouse 33 = .ok (.iinc 6 1, 3) := by decide +kernel
theorem dX10_tellsHouse_36 : decode cX10_tellsHouse 36 = .ok (.goto (-30), 3) := by decide +kernel
theorem dX10_tellsHouse_39 : decode cX10_tellsHouse 39 = .ok (.ldc2_w 259, 3) := by decide +kernel
theorem dX10_tellsHouse_42 : decode cX10_tellsHouse 42 = .ok (.lload 4, 2) := by decide +kernel
theorem dX10_tellsHouse_44 : decode cX10_tellsHouse 44 = .ok (.lmul, 1) := by decide +kernel
theorem dX10_tellsHouse_45 : decode cX10_tellsHouse 45 = .ok (.aload_n 0, 1) := by decide +kernel
theorem dX10_tellsHouse_46 : decode cX10_tellsHouse 46 = .ok (.getfield 37, 3) := by decide +kernel
theorem dX10_tellsHouse_49 : decode cX10_tellsHouse 49 = .ok (.iload_n 3, 1) := by decide +kernel
theorem dX10_tellsHouse_50 : decode cX10_tellsHouse 50 = .ok (.iaload, 1) := by decide +kernel
theorem dX10_tellsHouse_51 : decode cX10_tellsHouse 51 = .ok (.i2l, 1) := by decide +kernel
theorem dX10_tellsHouse_52 : decode cX10_tellsHouse 52 = .ok (.ladd, 1) := by decide +kernel
theorem dX10_tellsHouse_53 : decode cX10_tellsHouse 53 = .ok (.lstore 4, 2) := by decide +kernel
theorem dX10_tellsHouse_55 : decode cX10_tellsHouse 55 = .ok (.ldc2_w 259, 3) := by decide +kernel
theorem dX10_tellsHouse_58 : decode cX10_tellsHouse 58 = .ok (.lload 4, 2) := by decide +kernel
theorem dX10_tellsHouse_60 : decode cX10_tellsHouse 60 = .ok (.lmul, 1) := by decide +kernel
theorem dX10_tellsHouse_61 : decode cX10_tellsHouse 61 = .ok (.aload_n 0, 1) := by decide +kernel
theorem dX10_tellsHouse_62 : decode cX10_tellsHouse 62 = .ok (.iload_n 3, 1) := by decide +kernel
theorem dX10_tellsHouse_63 : decode cX10_tellsHouse 63 = .ok (.iconst 0, 1) := by decide +kernel
theorem dX10_tellsHouse_64 : decode cX10_tellsHouse 64 = .ok (.invokevirtual 160, 3) := by decide +kernel
theorem dX10_tellsHouse_67 : decode cX10_tellsHouse 67 = .ok (.i2l, 1) := by decide +kernel
theorem dX10_tellsHouse_68 : decode cX10_tellsHouse 68 = .ok (.ladd, 1) := by decide +kernel
theorem dX10_tellsHouse_69 : decode cX10_tellsHouse 69 = .ok (.lstore 4, 2) := by decide +kernel
theorem dX10_tellsHouse_71 : decode cX10_tellsHouse 71 = .ok (.ldc2_w 259, 3) := by decide +kernel
theorem dX10_tellsHouse_74 : decode cX10_tellsHouse 74 = .ok (.lload 4, 2) := by decide +kernel
theorem dX10_tellsHouse_76 : decode cX10_tellsHouse 76 = .ok (.lmul, 1) := by decide +kernel
theorem dX10_tellsHouse_77 : decode cX10_tellsHouse 77 = .ok (.aload_n 0, 1) := by decide +kernel
theorem dX10_tellsHouse_78 : decode cX10_tellsHouse 78 = .ok (.iload_n 3, 1) := by decide +kernel
theorem dX10_tellsHouse_79 : decode cX10_tellsHouse 79 = .ok (.iconst 1, 1) := by decide +kernel
theorem dX10_tellsHouse_80 : decode cX10_tellsHouse 80 = .ok (.invokevirtual 160, 3) := by decide +kernel
theorem dX10_tellsHouse_83 : decode cX10_tellsHouse 83 = .ok (.i2l, 1) := by decide +kernel
theorem dX10_tellsHouse_84 : decode cX10_tellsHouse 84 = .ok (.ladd, 1) := by decide +kernel
theorem dX10_tellsHouse_85 : decode cX10_tellsHouse 85 = .ok (.lstore 4, 2) := by decide +kernel
theorem dX10_tellsHouse_87 : decode cX10_tellsHouse 87 = .ok (.ldc2_w 259, 3) := by decide +kernel
theorem dX10_tellsHouse_90 : decode cX10_tellsHouse 90 = .ok (.lload 4, 2) := by decide +kernel
theorem dX10_tellsHouse_92 : decode cX10_tellsHouse 92 = .ok (.lmul, 1) := by decide +kernel
theorem dX10_tellsHouse_93 : decode cX10_tellsHouse 93 = .ok (.aload_n 0, 1) := by decide +kernel
theorem dX10_tellsHouse_94 : decode cX10_tellsHouse 94 = .ok (.iload_n 3, 1) := by decide +kernel
theorem dX10_tellsHouse_95 : decode cX10_tellsHouse 95 = .ok (.invokevirtual 163, 3) := by decide +kernel
theorem dX10_tellsHouse_98 : decode cX10_tellsHouse 98 = .ok (.i2l, 1) := by decide +kernel
theorem dX10_tellsHouse_99 : decode cX10_tellsHouse 99 = .ok (.ladd, 1) := by decide +kernel
theorem dX10_tellsHouse_100 : decode cX10_tellsHouse 100 = .ok (.lstore 4, 2) := by decide +kernel
theorem dX10_tellsHouse_102 : decode cX10_tellsHouse 102 = .ok (.ldc2_w 259, 3) := by decide +kernel
theorem dX10_tellsHouse_105 : decode cX10_tellsHouse 105 = .ok (.lload 4, 2) := by decide +kernel
theorem dX10_tellsHouse_107 : decode cX10_tellsHouse 107 = .ok (.lmul, 1) := by decide +kernel
theorem dX10_tellsHouse_108 : decode cX10_tellsHouse 108 = .ok (.aload_n 0, 1) := by decide +kernel
theorem dX10_tellsHouse_109 : decode cX10_tellsHouse 109 = .ok (.iload_n 3, 1) := by decide +kernel
theorem dX10_tellsHouse_110 : decode cX10_tellsHouse 110 = .ok (.iconst 0, 1) := by decide +kernel
theorem dX10_tellsHouse_111 : decode cX10_tellsHouse 111 = .ok (.invokevirtual 188, 3) := by decide +kernel
theorem dX10_tellsHouse_114 : decode cX10_tellsHouse 114 = .ok (.i2l, 1) := by decide +kernel
theorem dX10_tellsHouse_115 : decode cX10_tellsHouse 115 = .ok (.ladd, 1) := by decide +kernel
theorem dX10_tellsHouse_116 : decode cX10_tellsHouse 116 = .ok (.lstore 4, 2) := by decide +kernel
theorem dX10_tellsHouse_118 : decode cX10_tellsHouse 118 = .ok (.ldc2_w 259, 3) := by decide +kernel
theorem dX10_tellsHouse_121 : decode cX10_tellsHouse 121 = .ok (.lload 4, 2) := by decide +kernel
theorem dX10_tellsHouse_123 : decode cX10_tellsHouse 123 = .ok (.lmul, 1) := by decide +kernel
theorem dX10_tellsHouse_124 : decode cX10_tellsHouse 124 = .ok (.aload_n 0, 1) := by decide +kernel
theorem dX10_tellsHouse_125 : decode cX10_tellsHouse 125 = .ok (.iload_n 3, 1) := by decide +kernel
theorem dX10_tellsHouse_126 : decode cX10_tellsHouse 126 = .ok (.iconst 1, 1) := by decide +kernel
theorem dX10_tellsHouse_127 : decode cX10_tellsHouse 127 = .ok (.invokevirtual 188, 3) := by decide +kernel
theorem dX10_tellsHouse_130 : decode cX10_tellsHouse 130 = .ok (.i2l, 1) := by decide +kernel
theorem dX10_tellsHouse_131 : decode cX10_tellsHouse 131 = .ok (.ladd, 1) := by decide +kernel
theorem dX10_tellsHouse_132 : decode cX10_tellsHouse 132 = .ok (.lstore 4, 2) := by decide +kernel
theorem dX10_tellsHouse_134 : decode cX10_tellsHouse 134 = .ok (.ldc2_w 259, 3) := by decide +kernel
theorem dX10_tellsHouse_137 : decode cX10_tellsHouse 137 = .ok (.lload 4, 2) := by decide +kernel
theorem dX10_tellsHouse_139 : decode cX10_tellsHouse 139 = .ok (.lmul, 1) := by decide +kernel
theorem dX10_tellsHouse_140 : decode cX10_tellsHouse 140 = .ok (.aload_n 0, 1) := by decide +kernel
theorem dX10_tellsHouse_141 : decode cX10_tellsHouse 141 = .ok (.iload_n 3, 1) := by decide +kernel
theorem dX10_tellsHouse_142 : decode cX10_tellsHouse 142 = .ok (.iconst 0, 1) := by decide +kernel
theorem dX10_tellsHouse_143 : decode cX10_tellsHouse 143 = .ok (.invokevirtual 191, 3) := by decide +kernel
theorem dX10_tellsHouse_146 : decode cX10_tellsHouse 146 = .ok (.i2l, 1) := by decide +kernel
theorem dX10_tellsHouse_147 : decode cX10_tellsHouse 147 = .ok (.ladd, 1) := by decide +kernel
theorem dX10_tellsHouse_148 : decode cX10_tellsHouse 148 = .ok (.lstore 4, 2) := by decide +kernel
theorem dX10_tellsHouse_150 : decode cX10_tellsHouse 150 = .ok (.ldc2_w 259, 3) := by decide +kernel
theorem dX10_tellsHouse_153 : decode cX10_tellsHouse 153 = .ok (.lload 4, 2) := by decide +kernel
theorem dX10_tellsHouse_155 : decode cX10_tellsHouse 155 = .ok (.lmul, 1) := by decide +kernel
theorem dX10_tellsHouse_156 : decode cX10_tellsHouse 156 = .ok (.aload_n 0, 1) := by decide +kernel
theorem dX10_tellsHouse_157 : decode cX10_tellsHouse 157 = .ok (.iload_n 3, 1) := by decide +kernel
theorem dX10_tellsHouse_158 : decode cX10_tellsHouse 158 = .ok (.iconst 1, 1) := by decide +kernel
theorem dX10_tellsHouse_159 : decode cX10_tellsHouse 159 = .ok (.invokevirtual 191, 3) := by decide +kernel
theorem dX10_tellsHouse_162 : decode cX10_tellsHouse 162 = .ok (.i2l, 1) := by decide +kernel
theorem dX10_tellsHouse_163 : decode cX10_tellsHouse 163 = .ok (.ladd, 1) := by decide +kernel
theorem dX10_tellsHouse_164 : decode cX10_tellsHouse 164 = .ok (.lstore 4, 2) := by decide +kernel
theorem dX10_tellsHouse_166 : decode cX10_tellsHouse 166 = .ok (.ldc2_w 259, 3) := by decide +kernel
theorem dX10_tellsHouse_169 : decode cX10_tellsHouse 169 = .ok (.lload 4, 2) := by decide +kernel
theorem dX10_tellsHouse_171 : decode cX10_tellsHouse 171 = .ok (.lmul, 1) := by decide +kernel
theorem dX10_tellsHouse_172 : decode cX10_tellsHouse 172 = .ok (.aload_n 0, 1) := by decide +kernel
theorem dX10_tellsHouse_173 : decode cX10_tellsHouse 173 = .ok (.iload_n 3, 1) := by decide +kernel
theorem dX10_tellsHouse_174 : decode cX10_tellsHouse 174 = .ok (.iconst 0, 1) := by decide +kernel
theorem dX10_tellsHouse_175 : decode cX10_tellsHouse 175 = .ok (.iconst 0, 1) := by decide +kernel
theorem dX10_tellsHouse_176 : decode cX10_tellsHouse 176 = .ok (.invokevirtual 261, 3) := by decide +kernel
theorem dX10_tellsHouse_179 : decode cX10_tellsHouse 179 = .ok (.i2l, 1) := by decide +kernel
theorem dX10_tellsHouse_180 : decode cX10_tellsHouse 180 = .ok (.ladd, 1) := by decide +kernel
theorem dX10_tellsHouse_181 : decode cX10_tellsHouse 181 = .ok (.lstore 4, 2) := by decide +kernel
theorem dX10_tellsHouse_183 : decode cX10_tellsHouse 183 = .ok (.ldc2_w 259, 3) := by decide +kernel
theorem dX10_tellsHouse_186 : decode cX10_tellsHouse 186 = .ok (.lload 4, 2) := by decide +kernel
theorem dX10_tellsHouse_188 : decode cX10_tellsHouse 188 = .ok (.lmul, 1) := by decide +kernel
theorem dX10_tellsHouse_189 : decode cX10_tellsHouse 189 = .ok (.aload_n 0, 1) := by decide +kernel
theorem dX10_tellsHouse_190 : decode cX10_tellsHouse 190 = .ok (.iload_n 3, 1) := by decide +kernel
theorem dX10_tellsHouse_191 : decode cX10_tellsHouse 191 = .ok (.iconst 0, 1) := by decide +kernel
theorem dX10_tellsHouse_192 : decode cX10_tellsHouse 192 = .ok (.iconst 1, 1) := by decide +kernel
theorem dX10_tellsHouse_193 : decode cX10_tellsHouse 193 = .ok (.invokevirtual 261, 3) := by decide +kernel
theorem dX10_tellsHouse_196 : decode cX10_tellsHouse 196 = .ok (.i2l, 1) := by decide +kernel
theorem dX10_tellsHouse_197 : decode cX10_tellsHouse 197 = .ok (.ladd, 1) := by decide +kernel
theorem dX10_tellsHouse_198 : decode cX10_tellsHouse 198 = .ok (.lstore 4, 2) := by decide +kernel
theorem dX10_tellsHouse_200 : decode cX10_tellsHouse 200 = .ok (.ldc2_w 259, 3) := by decide +kernel
theorem dX10_tellsHouse_203 : decode cX10_tellsHouse 203 = .ok (.lload 4, 2) := by decide +kernel
theorem dX10_tellsHouse_205 : decode cX10_tellsHouse 205 = .ok (.lmul, 1) := by decide +kernel
theorem dX10_tellsHouse_206 : decode cX10_tellsHouse 206 = .ok (.aload_n 0, 1) := by decide +kernel
theorem dX10_tellsHouse_207 : decode cX10_tellsHouse 207 = .ok (.iload_n 3, 1) := by decide +kernel
theorem dX10_tellsHouse_208 : decode cX10_tellsHouse 208 = .ok (.iconst 0, 1) := by decide +kernel
theorem dX10_tellsHouse_209 : decode cX10_tellsHouse 209 = .ok (.invokevirtual 264, 3) := by decide +kernel
theorem dX10_tellsHouse_212 : decode cX10_tellsHouse 212 = .ok (.i2l, 1) := by decide +kernel
theorem dX10_tellsHouse_213 : decode cX10_tellsHouse 213 = .ok (.ladd, 1) := by decide +kernel
theorem dX10_tellsHouse_214 : decode cX10_tellsHouse 214 = .ok (.lstore 4, 2) := by decide +kernel
theorem dX10_tellsHouse_216 : decode cX10_tellsHouse 216 = .ok (.ldc2_w 259, 3) := by decide +kernel
theorem dX10_tellsHouse_219 : decode cX10_tellsHouse 219 = .ok (.lload 4, 2) := by decide +kernel
theorem dX10_tellsHouse_221 : decode cX10_tellsHouse 221 = .ok (.lmul, 1) := by decide +kernel
theorem dX10_tellsHouse_222 : decode cX10_tellsHouse 222 = .ok (.aload_n 0, 1) := by decide +kernel
theorem dX10_tellsHouse_223 : decode cX10_tellsHouse 223 = .ok (.iconst 5, 1) := by decide +kernel
theorem dX10_tellsHouse_224 : decode cX10_tellsHouse 224 = .ok (.iload_n 3, 1) := by decide +kernel
theorem dX10_tellsHouse_225 : decode cX10_tellsHouse 225 = .ok (.bipush 9, 2) := by decide +kernel
theorem dX10_tellsHouse_227 : decode cX10_tellsHouse 227 = .ok (.iconst 0, 1) := by decide +kernel
theorem dX10_tellsHouse_228 : decode cX10_tellsHouse 228 = .ok (.invokevirtual 232, 3) := by decide +kernel
theorem dX10_tellsHouse_231 : decode cX10_tellsHouse 231 = .ok (.ladd, 1) := by decide +kernel
theorem dX10_tellsHouse_232 : decode cX10_tellsHouse 232 = .ok (.lstore 4, 2) := by decide +kernel
theorem dX10_tellsHouse_234 : decode cX10_tellsHouse 234 = .ok (.ldc2_w 259, 3) := by decide +kernel
theorem dX10_tellsHouse_237 : decode cX10_tellsHouse 237 = .ok (.lload 4, 2) := by decide +kernel
theorem dX10_tellsHouse_239 : decode cX10_tellsHouse 239 = .ok (.lmul, 1) := by decide +kernel
theorem dX10_tellsHouse_240 : decode cX10_tellsHouse 240 = .ok (.aload_n 0, 1) := by decide +kernel
theorem dX10_tellsHouse_241 : decode cX10_tellsHouse 241 = .ok (.iconst 5, 1) := by decide +kernel
theorem dX10_tellsHouse_242 : decode cX10_tellsHouse 242 = .ok (.iload_n 3, 1) := by decide +kernel
theorem dX10_tellsHouse_243 : decode cX10_tellsHouse 243 = .ok (.bipush 9, 2) := by decide +kernel
theorem dX10_tellsHouse_245 : decode cX10_tellsHouse 245 = .ok (.iconst 1, 1) := by decide +kernel
theorem dX10_tellsHouse_246 : decode cX10_tellsHouse 246 = .ok (.invokevirtual 232, 3) := by decide +kernel
theorem dX10_tellsHouse_249 : decode cX10_tellsHouse 249 = .ok (.ladd, 1) := by decide +kernel
theorem dX10_tellsHouse_250 : decode cX10_tellsHouse 250 = .ok (.lstore 4, 2) := by decide +kernel
theorem dX10_tellsHouse_252 : decode cX10_tellsHouse 252 = .ok (.ldc2_w 259, 3) := by decide +kernel
theorem dX10_tellsHouse_255 : decode cX10_tellsHouse 255 = .ok (.lload 4, 2) := by decide +kernel
theorem dX10_tellsHouse_257 : decode cX10_tellsHouse 257 = .ok (.lmul, 1) := by decide +kernel
theorem dX10_tellsHouse_258 : decode cX10_tellsHouse 258 = .ok (.aload_n 0, 1) := by decide +kernel
theorem dX10_tellsHouse_259 : decode cX10_tellsHouse 259 = .ok (.bipush 7, 2) := by decide +kernel
theorem dX10_tellsHouse_261 : decode cX10_tellsHouse 261 = .ok (.bipush 30, 2) := by decide +kernel
theorem dX10_tellsHouse_263 : decode cX10_tellsHouse 263 = .ok (.iload_n 3, 1) := by decide +kernel
theorem dX10_tellsHouse_264 : decode cX10_tellsHouse 264 = .ok (.iconst 0, 1) := by decide +kernel
theorem dX10_tellsHouse_265 : decode cX10_tellsHouse 265 = .ok (.invokevirtual 249, 3) := by decide +kernel
theorem dX10_tellsHouse_268 : decode cX10_tellsHouse 268 = .ok (.i2l, 1) := by decide +kernel
theorem dX10_tellsHouse_269 : decode cX10_tellsHouse 269 = .ok (.ladd, 1) := by decide +kernel
theorem dX10_tellsHouse_270 : decode cX10_tellsHouse 270 = .ok (.lstore 4, 2) := by decide +kernel
theorem dX10_tellsHouse_272 : decode cX10_tellsHouse 272 = .ok (.ldc2_w 259, 3) := by decide +kernel
theorem dX10_tellsHouse_275 : decode cX10_tellsHouse 275 = .ok (.lload 4, 2) := by decide +kernel
theorem dX10_tellsHouse_277 : decode cX10_tellsHouse 277 = .ok (.lmul, 1) := by decide +kernel
theorem dX10_tellsHouse_278 : decode cX10_tellsHouse 278 = .ok (.aload_n 0, 1) := by decide +kernel
theorem dX10_tellsHouse_279 : decode cX10_tellsHouse 279 = .ok (.bipush 7, 2) := by decide +kernel
theorem dX10_tellsHouse_281 : decode cX10_tellsHouse 281 = .ok (.bipush 30, 2) := by decide +kernel
theorem dX10_tellsHouse_283 : decode cX10_tellsHouse 283 = .ok (.iload_n 3, 1) := by decide +kernel
theorem dX10_tellsHouse_284 : decode cX10_tellsHouse 284 = .ok (.iconst 1, 1) := by decide +kernel
theorem dX10_tellsHouse_285 : decode cX10_tellsHouse 285 = .ok (.invokevirtual 249, 3) := by decide +kernel
theorem dX10_tellsHouse_288 : decode cX10_tellsHouse 288 = .ok (.i2l, 1) := by decide +kernel
theorem dX10_tellsHouse_289 : decode cX10_tellsHouse 289 = .ok (.ladd, 1) := by decide +kernel
theorem dX10_tellsHouse_290 : decode cX10_tellsHouse 290 = .ok (.lreturn, 1) := by decide +kernel
theorem dX10_digest_0 : decode cX10_digest 0 = .ok (.ldc2_w 267, 3) := by decide +kernel
theorem dX10_digest_3 : decode cX10_digest 3 = .ok (.lstore_n 1, 1) := by decide +kernel
theorem dX10_digest_4 : decode cX10_digest 4 = .ok (.iconst 0, 1) := by decide +kernel
theorem dX10_digest_5 : decode cX10_digest 5 = .ok (.istore_n 3, 1) := by decide +kernel
theorem dX10_digest_6 : decode cX10_digest 6 = .ok (.iload_n 3, 1) := by decide +kernel
theorem dX10_digest_7 : decode cX10_digest 7 = .ok (.bipush 8, 2) := by decide +kernel
theorem dX10_digest_9 : decode cX10_digest 9 = .ok (.if_icmp .ge 22, 3) := by decide +kernel
theorem dX10_digest_12 : decode cX10_digest 12 = .ok (.ldc2_w 259, 3) := by decide +kernel
theorem dX10_digest_15 : decode cX10_digest 15 = .ok (.lload_n 1, 1) := by decide +kernel
theorem dX10_digest_16 : decode cX10_digest 16 = .ok (.lmul, 1) := by decide +kernel
theorem dX10_digest_17 : decode cX10_digest 17 = .ok (.aload_n 0, 1) := by decide +kernel
theorem dX10_digest_18 : decode cX10_digest 18 = .ok (.iload_n 3, 1) := by decide +kernel
theorem dX10_digest_19 : decode cX10_digest 19 = .ok (.invokevirtual 269, 3) := by decide +kernel
theorem dX10_digest_22 : decode cX10_digest 22 = .ok (.i2l, 1) := by decide +kernel
theorem dX10_digest_23 : decode cX10_digest 23 = .ok (.ladd, 1) := by decide +kernel
theorem dX10_digest_24 : decode cX10_digest 24 = .ok (.lstore_n 1, 1) := by decide +kernel
theorem dX10_digest_25 : decode cX10_digest 25 = .ok (.iinc 3 1, 3) := by decide +kernel
theorem dX10_digest_28 : decode cX10_digest 28 = .ok (.goto (-22), 3) := by decide +kernel
theorem dX10_digest_31 : decode cX10_digest 31 = .ok (.ldc2_w 259, 3) := by decide +kernel
theorem dX10_digest_34 : decode cX10_digest 34 = .ok (.lload_n 1, 1) := by decide +kernel
theorem dX10_digest_35 : decode cX10_digest 35 = .ok (.lmul, 1) := by decide +kernel
theorem dX10_digest_36 : decode cX10_digest 36 = .ok (.aload_n 0, 1) := by decide +kernel
theorem dX10_digest_37 : decode cX10_digest 37 = .ok (.invokevirtual 113, 3) := by decide +kernel
theorem dX10_digest_40 : decode cX10_digest 40 = .ok (.i2l, 1) := by decide +kernel
theorem dX10_digest_41 : decode cX10_digest 41 = .ok (.ladd, 1) := by decide +kernel
theorem dX10_digest_42 : decode cX10_digest 42 = .ok (.lstore_n 1, 1) := by decide +kernel
theorem dX10_digest_43 : decode cX10_digest 43 = .ok (.ldc2_w 259, 3) := by decide +kernel
theorem dX10_digest_46 : decode cX10_digest 46 = .ok (.lload_n 1, 1) := by decide +kernel
theorem dX10_digest_47 : decode cX10_digest 47 = .ok (.lmul, 1) := by decide +kernel
theorem dX10_digest_48 : decode cX10_digest 48 = .ok (.aload_n 0, 1) := by decide +kernel
theorem dX10_digest_49 : decode cX10_digest 49 = .ok (.invokevirtual 117, 3) := by decide +kernel
theorem dX10_digest_52 : decode cX10_digest 52 = .ok (.i2l, 1) := by decide +kernel
theorem dX10_digest_53 : decode cX10_digest 53 = .ok (.ladd, 1) := by decide +kernel
theorem dX10_digest_54 : decode cX10_digest 54 = .ok (.lstore_n 1, 1) := by decide +kernel
theorem dX10_digest_55 : decode cX10_digest 55 = .ok (.aload_n 0, 1) := by decide +kernel
theorem dX10_digest_56 : decode cX10_digest 56 = .ok (.invokevirtual 151, 3) := by decide +kernel
theorem dX10_digest_59 : decode cX10_digest 59 = .ok (.iconst 0, 1) := by decide +kernel
theorem dX10_digest_60 : decode cX10_digest 60 = .ok (.istore_n 3, 1) := by decide +kernel
theorem dX10_digest_61 : decode cX10_digest 61 = .ok (.iload_n 3, 1) := by decide +kernel
theorem dX10_digest_62 : decode cX10_digest 62 = .ok (.aload_n 0, 1) := by decide +kernel
theorem dX10_digest_63 : decode cX10_digest 63 = .ok (.getfield 97, 3) := by decide +kernel
theorem dX10_digest_66 : decode cX10_digest 66 = .ok (.if_icmp .ge 16, 3) := by decide +kernel
theorem dX10_digest_69 : decode cX10_digest 69 = .ok (.aload_n 0, 1) := by decide +kernel
theorem dX10_digest_70 : decode cX10_digest 70 = .ok (.lload_n 1, 1) := by decide +kernel
theorem dX10_digest_71 : decode cX10_digest 71 = .ok (.iload_n 3, 1) := by decide +kernel
theorem dX10_digest_72 : decode cX10_digest 72 = .ok (.invokevirtual 272, 3) := by decide +kernel
theorem dX10_digest_75 : decode cX10_digest 75 = .ok (.lstore_n 1, 1) := by decide +kernel
theorem dX10_digest_76 : decode cX10_digest 76 = .ok (.iinc 3 1, 3) := by decide +kernel
theorem dX10_digest_79 : decode cX10_digest 79 = .ok (.goto (-18), 3) := by decide +kernel
theorem dX10_digest_82 : decode cX10_digest 82 = .ok (.iconst 0, 1) := by decide +kernel
theorem dX10_digest_83 : decode cX10_digest 83 = .ok (.istore_n 3, 1) := by decide +kernel
theorem dX10_digest_84 : decode cX10_digest 84 = .ok (.iload_n 3, 1) := by decide +kernel
theorem dX10_digest_85 : decode cX10_digest 85 = .ok (.aload_n 0, 1) := by decide +kernel
theorem dX10_digest_86 : decode cX10_digest 86 = .ok (.getfield 103, 3) := by decide +kernel
theorem dX10_digest_89 : decode cX10_digest 89 = .ok (.if_icmp .ge 124, 3) := by decide +kernel
theorem dX10_digest_92 : decode cX10_digest 92 = .ok (.iconst 0, 1) := by decide +kernel
theorem dX10_digest_93 : decode cX10_digest 93 = .ok (.istore 4, 2) := by decide +kernel
theorem dX10_digest_95 : decode cX10_digest 95 = .ok (.iload 4, 2) := by decide +kernel
theorem dX10_digest_97 : decode cX10_digest 97 = .ok (.iconst 4, 1) := by decide +kernel
theorem dX10_digest_98 : decode cX10_digest 98 = .ok (.if_icmp .ge 28, 3) := by decide +kernel
theorem dX10_digest_101 : decode cX10_digest 101 = .ok (.ldc2_w 259, 3) := by decide +kernel
theorem dX10_digest_104 : decode cX10_digest 104 = .ok (.lload_n 1, 1) := by decide +kernel
theorem dX10_digest_105 : decode cX10_digest 105 = .ok (.lmul, 1) := by decide +kernel
theorem dX10_digest_106 : decode cX10_digest 106 = .ok (.aload_n 0, 1) := by decide +kernel
theorem dX10_digest_107 : decode cX10_digest 107 = .ok (.getfield 31, 3) := by decide +kernel
theorem dX10_digest_110 : decode cX10_digest 110 = .ok (.iconst 4, 1) := by decide +kernel
theorem dX10_digest_111 : decode cX10_digest 111 = .ok (.iload_n 3, 1) := by decide +kernel
theorem dX10_digest_112 : decode cX10_digest 112 = .ok (.imul, 1) := by decide +kernel
theorem dX10_digest_113 : decode cX10_digest 113 = .ok (.iload 4, 2) := by decide +kernel
theorem dX10_digest_115 : decode cX10_digest 115 = .ok (.iadd, 1) := by decide +kernel
theorem dX10_digest_116 : decode cX10_digest 116 = .ok (.iaload, 1) := by decide +kernel
theorem dX10_digest_117 : decode cX10_digest 117 = .ok (.i2l, 1) := by decide +kernel
theorem dX10_digest_118 : decode cX10_digest 118 = .ok (.ladd, 1) := by decide +kernel
theorem dX10_digest_119 : decode cX10_digest 119 = .ok (.lstore_n 1, 1) := by decide +kernel
theorem dX10_digest_120 : decode cX10_digest 120 = .ok (.iinc 4 1, 3) := by decide +kernel
theorem dX10_digest_123 : decode cX10_digest 123 = .ok (.goto (-28), 3) := by decide +kernel
theorem dX10_digest_126 : decode cX10_digest 126 = .ok (.iconst 0, 1) := by decide +kernel
theorem dX10_digest_127 : decode cX10_digest 127 = .ok (.istore 4, 2) := by decide +kernel
theorem dX10_digest_129 : decode cX10_digest 129 = .ok (.iload 4, 2) := by decide +kernel
theorem dX10_digest_131 : decode cX10_digest 131 = .ok (.iconst 4, 1) := by decide +kernel
theorem dX10_digest_132 : decode cX10_digest 132 = .ok (.if_icmp .ge 24, 3) := by decide +kernel
theorem dX10_digest_135 : decode cX10_digest 135 = .ok (.ldc2_w 259, 3) := by decide +kernel
theorem dX10_digest_138 : decode cX10_digest 138 = .ok (.lload_n 1, 1) := by decide +kernel
theorem dX10_digest_139 : decode cX10_digest 139 = .ok (.lmul, 1) := by decide +kernel
theorem dX10_digest_140 : decode cX10_digest 140 = .ok (.aload_n 0, 1) := by decide +kernel
theorem dX10_digest_141 : decode cX10_digest 141 = .ok (.iload_n 3, 1) := by decide +kernel
theorem dX10_digest_142 : decode cX10_digest 142 = .ok (.iload 4, 2) := by decide +kernel
theorem dX10_digest_144 : decode cX10_digest 144 = .ok (.invokevirtual 157, 3) := by decide +kernel
theorem dX10_digest_147 : decode cX10_digest 147 = .ok (.i2l, 1) := by decide +kernel
theorem dX10_digest_148 : decode cX10_digest 148 = .ok (.ladd, 1) := by decide +kernel
theorem dX10_digest_149 : decode cX10_digest 149 = .ok (.lstore_n 1, 1) := by decide +kernel
theorem dX10_digest_150 : decode cX10_digest 150 = .ok (.iinc 4 1, 3) := by decide +kernel
theorem dX10_digest_153 : decode cX10_digest 153 = .ok (.goto (-24), 3) := by decide +kernel
theorem dX10_digest_156 : decode cX10_digest 156 = .ok (.ldc2_w 259, 3) := by decide +kernel
theorem dX10_digest_159 : decode cX10_digest 159 = .ok (.lload_n 1, 1) := by decide +kernel
theorem dX10_digest_160 : decode cX10_digest 160 = .ok (.lmul, 1) := by decide +kernel
theorem dX10_digest_161 : decode cX10_digest 161 = .ok (.aload_n 0, 1) := by decide +kernel
theorem dX10_digest_162 : decode cX10_digest 162 = .ok (.iload_n 3, 1) := by decide +kernel
theorem dX10_digest_163 : decode cX10_digest 163 = .ok (.invokevirtual 217, 3) := by decide +kernel
theorem dX10_digest_166 : decode cX10_digest 166 = .ok (.i2l, 1) := by decide +kernel
theorem dX10_digest_167 : decode cX10_digest 167 = .ok (.ladd, 1) := by decide +kernel
theorem dX10_digest_168 : decode cX10_digest 168 = .ok (.lstore_n 1, 1) := by decide +kernel
theorem dX10_digest_169 : decode cX10_digest 169 = .ok (.iconst 0, 1) := by decide +kernel
theorem dX10_digest_170 : decode cX10_digest 170 = .ok (.istore 4, 2) := by decide +kernel
theorem dX10_digest_172 : decode cX10_digest 172 = .ok (.iload 4, 2) := by decide +kernel
theorem dX10_digest_174 : decode cX10_digest 174 = .ok (.aload_n 0, 1) := by decide +kernel
theorem dX10_digest_175 : decode cX10_digest 175 = .ok (.getfield 97, 3) := by decide +kernel
theorem dX10_digest_178 : decode cX10_digest 178 = .ok (.if_icmp .ge 29, 3) := by decide +kernel
theorem dX10_digest_181 : decode cX10_digest 181 = .ok (.ldc2_w 259, 3) := by decide +kernel
theorem dX10_digest_184 : decode cX10_digest 184 = .ok (.lload_n 1, 1) := by decide +kernel
theorem dX10_digest_185 : decode cX10_digest 185 = .ok (.lmul, 1) := by decide +kernel
theorem dX10_digest_186 : decode cX10_digest 186 = .ok (.aload_n 0, 1) := by decide +kernel
theorem dX10_digest_187 : decode cX10_digest 187 = .ok (.getfield 40, 3) := by decide +kernel
theorem dX10_digest_190 : decode cX10_digest 190 = .ok (.bipush 8, 2) := by decide +kernel
theorem dX10_digest_192 : decode cX10_digest 192 = .ok (.iload_n 3, 1) := by decide +kernel
theorem dX10_digest_193 : decode cX10_digest 193 = .ok (.imul, 1) := by decide +kernel
theorem dX10_digest_194 : decode cX10_digest 194 = .ok (.iload 4, 2) := by decide +kernel
theorem dX10_digest_196 : decode cX10_digest 196 = .ok (.iadd, 1) := by decide +kernel
theorem dX10_digest_197 : decode cX10_digest 197 = .ok (.iaload, 1) := by decide +kernel
theorem dX10_digest_198 : decode cX10_digest 198 = .ok (.i2l, 1) := by decide +kernel
theorem dX10_digest_199 : decode cX10_digest 199 = .ok (.ladd, 1) := by decide +kernel
theorem dX10_digest_200 : decode cX10_digest 200 = .ok (.lstore_n 1, 1) := by decide +kernel
theorem dX10_digest_201 : decode cX10_digest 201 = .ok (.iinc 4 1, 3) := by decide +kernel
theorem dX10_digest_204 : decode cX10_digest 204 = .ok (.goto (-32), 3) := by decide +kernel
theorem dX10_digest_207 : decode cX10_digest 207 = .ok (.iinc 3 1, 3) := by decide +kernel
theorem dX10_digest_210 : decode cX10_digest 210 = .ok (.goto (-126), 3) := by decide +kernel
theorem dX10_digest_213 : decode cX10_digest 213 = .ok (.ldc2_w 259, 3) := by decide +kernel
theorem dX10_digest_216 : decode cX10_digest 216 = .ok (.lload_n 1, 1) := by decide +kernel
theorem dX10_digest_217 : decode cX10_digest 217 = .ok (.lmul, 1) := by decide +kernel
theorem dX10_digest_218 : decode cX10_digest 218 = .ok (.aload_n 0, 1) := by decide +kernel
theorem dX10_digest_219 : decode cX10_digest 219 = .ok (.invokevirtual 166, 3) := by decide +kernel
theorem dX10_digest_222 : decode cX10_digest 222 = .ok (.i2l, 1) := by decide +kernel
theorem dX10_digest_223 : decode cX10_digest 223 = .ok (.ladd, 1) := by decide +kernel
theorem dX10_digest_224 : decode cX10_digest 224 = .ok (.lstore_n 1, 1) := by decide +kernel
theorem dX10_digest_225 : decode cX10_digest 225 = .ok (.ldc2_w 259, 3) := by decide +kernel
theorem dX10_digest_228 : decode cX10_digest 228 = .ok (.lload_n 1, 1) := by decide +kernel
theorem dX10_digest_229 : decode cX10_digest 229 = .ok (.lmul, 1) := by decide +kernel
theorem dX10_digest_230 : decode cX10_digest 230 = .ok (.aload_n 0, 1) := by decide +kernel
theorem dX10_digest_231 : decode cX10_digest 231 = .ok (.invokevirtual 169, 3) := by decide +kernel
theorem dX10_digest_234 : decode cX10_digest 234 = .ok (.i2l, 1) := by decide +kernel
theorem dX10_digest_235 : decode cX10_digest 235 = .ok (.ladd, 1) := by decide +kernel
theorem dX10_digest_236 : decode cX10_digest 236 = .ok (.lstore_n 1, 1) := by decide +kernel
theorem dX10_digest_237 : decode cX10_digest 237 = .ok (.ldc2_w 259, 3) := by decide +kernel
theorem dX10_digest_240 : decode cX10_digest 240 = .ok (.lload_n 1, 1) := by decide +kernel
theorem dX10_digest_241 : decode cX10_digest 241 = .ok (.lmul, 1) := by decide +kernel
theorem dX10_digest_242 : decode cX10_digest 242 = .ok (.aload_n 0, 1) := by decide +kernel
theorem dX10_digest_243 : decode cX10_digest 243 = .ok (.invokevirtual 214, 3) := by decide +kernel
theorem dX10_digest_246 : decode cX10_digest 246 = .ok (.i2l, 1) := by decide +kernel
theorem dX10_digest_247 : decode cX10_digest 247 = .ok (.ladd, 1) := by decide +kernel
theorem dX10_digest_248 : decode cX10_digest 248 = .ok (.lstore_n 1, 1) := by decide +kernel
theorem dX10_digest_249 : decode cX10_digest 249 = .ok (.ldc2_w 259, 3) := by decide +kernel
theorem dX10_digest_252 : decode cX10_digest 252 = .ok (.lload_n 1, 1) := by decide +kernel
theorem dX10_digest_253 : decode cX10_digest 253 = .ok (.lmul, 1) := by decide +kernel
theorem dX10_digest_254 : decode cX10_digest 254 = .ok (.aload_n 0, 1) := by decide +kernel
theorem dX10_digest_255 : decode cX10_digest 255 = .ok (.invokevirtual 223, 3) := by decide +kernel
theorem dX10_digest_258 : decode cX10_digest 258 = .ok (.i2l, 1) := by decide +kernel
theorem dX10_digest_259 : decode cX10_digest 259 = .ok (.ladd, 1) := by decide +kernel
theorem dX10_digest_260 : decode cX10_digest 260 = .ok (.lreturn, 1) := by decide +kernel
